theorem dX11_more_0 : decode cX11_more 0 = .ok (.aload_n 0, 1) := by decide +kernel
theorem dX11_more_1 : decode cX11_more 1 = .ok (.getfield 28, 3) := by decide +kernel
theorem dX11_more_4 : decode cX11_more 4 = .ok (.iload_n 1, 1) := by decide +kernel
theorem dX11_more_5 : decode cX11_more 5 = .ok (.invokevirtual 270, 3) := by decide +kernel
theorem dX11_more_8 : decode cX11_more 8 = .ok (.ifCond .eq 19, 3) := by decide +kernel
theorem dX11_more_11 : decode cX11_more 11 = .ok (.aload_n 0, 1) := by decide +kernel
theorem dX11_more_12 : decode cX11_more 12 = .ok (.getfield 28, 3) := by decide +kernel
theorem dX11_more_15 : decode cX11_more 15 = .ok (.iload_n 2, 1) := by decide +kernel
theorem dX11_more_16 : decode cX11_more 16 = .ok (.invokevirtual 270, 3) := by decide +kernel
theorem dX11_more_19 : decode cX11_more 19 = .ok (.ifCond .eq 8, 3) := by decide +kernel
theorem dX11_more_22 : decode cX11_more 22 = .ok (.iload_n 1, 1) := by decide +kernel
theorem dX11_more_23 : decode cX11_more 23 = .ok (.iload_n 2, 1) := by decide +kernel
theorem dX11_more_24 : decode cX11_more 24 = .ok (.if_icmp .ne 5, 3) := by decide +kernel
theorem dX11_more_27 : decode cX11_more 27 = .ok (.iconst (-1), 1) := by decide +kernel
theorem dX11_more_28 : decode cX11_more 28 = .ok (.ireturn, 1) := by decide +kernel
theorem dX11_more_29 : decode cX11_more 29 = .ok (.aload_n 0, 1) := by decide +kernel
theorem dX11_more_30 : decode cX11_more 30 = .ok (.getfield 69, 3) := by decide +kernel
theorem dX11_more_33 : decode cX11_more 33 = .ok (.iload_n 1, 1) := by decide +kernel
theorem dX11_more_34 : decode cX11_more 34 = .ok (.iload_n 2, 1) := by decide +kernel
theorem dX11_more_35 : decode cX11_more 35 = .ok (.iconst 0, 1) := by decide +kernel
theorem dX11_more_36 : decode cX11_more 36 = .ok (.iload_n 3, 1) := by decide +kernel
theorem dX11_more_37 : decode cX11_more 37 = .ok (.invokevirtual 273, 3) := by decide +kernel
theorem dX11_more_40 : decode cX11_more 40 = .ok (.ireturn, 1) := by decide +kernel
abbrev mi_X11_more : MI := (zTX, RX11, yX11_more, cX11_more, 4, (some .int), 10)
theorem cal_X11_more : zCalV mi_X11_more 3 := ⟨⟨zTB_i5 236 (by decide +kernel), zTB_i5 234 (by decide +kernel), zTB_i5 235 (by decide +kernel), zTB_i1 1 (by decide +kernel)⟩, ⟨by decide, by decide, by decide +kernel⟩, by decide⟩
noncomputable def X11_more (x1 : Int32) (x2 : Int32) (x3 : Int32) (M : Mem) : Int32 × Mem :=
  if (X3_hasReader 23 x1 M) = true then
    if (X3_hasReader 23 x2 M) = true then
      if x1 = x2 then
        ((-1), M)
      else
      lp_ (X8_tell x1 x2 0 x3 M) fun v4 M5 =>
      (v4, M5)
    else
    ((-1), M)
  else
  ((-1), M)
set_option maxRecDepth 100000 in
set_option maxHeartbeats 4000000 in
theorem X11_more_ok (G : Gh) (x1 : Int32) (x2 : Int32) (x3 : Int32) (M : Mem) : Mt G mi_X11_more [.ref (G.2.2.2 (0)), .int x1, .int x2, .int x3] M (dIM (X11_more x1 x2 x3 M)) := by
  refine Mt_of (lv := [some (.ref (G.2.2.2 (0))), some (.int x1), some (.int x2), some (.int x3)]) (by decide) rfl (Nat.le_of_ble_eq_true rfl) rfl ?_
  unfold X11_more
  refine r_aload_n dX11_more_0 rfl ?_
  refine r_getf (v := .ref (G.2.2.2 (23))) dX11_more_1 fX_0_2 kX11 (by decide) lkf_X11_28 rfl ?_
  refine r_iload_n dX11_more_4 rfl ?_
  refine c_Z (inv_V (mi := mi_X11_more) (b := 23) (rest := []) (X3_hasReader_ok_23 G x1 M) rfl (by decide) dX11_more_5 lkm_X11_270 cal_X3_hasReader cX_23 rfl rfl (Nat.le_of_ble_eq_true rfl) rfl) ?_
  refine r_ifz_eq (tgt := 27) dX11_more_8 rfl (fun h1 => ?_) (fun h1 => ?_)
  · refine r_aload_n dX11_more_11 rfl ?_
    refine r_getf (v := .ref (G.2.2.2 (23))) dX11_more_12 fX_0_2 kX11 (by decide) lkf_X11_28 rfl ?_
    refine r_iload_n dX11_more_15 rfl ?_
    refine c_Z (inv_V (mi := mi_X11_more) (b := 23) (rest := []) (X3_hasReader_ok_23 G x2 M) rfl (by decide) dX11_more_16 lkm_X11_270 cal_X3_hasReader cX_23 rfl rfl (Nat.le_of_ble_eq_true rfl) rfl) ?_
    refine r_ifz_eq (tgt := 27) dX11_more_19 rfl (fun h2 => ?_) (fun h2 => ?_)
    · refine r_iload_n dX11_more_22 rfl ?_
      refine r_iload_n dX11_more_23 rfl ?_
      refine r_icmp_ne (tgt := 29) dX11_more_24 rfl (fun h3 => ?_) (fun h3 => ?_)
      · refine r_iconst (x := (-1)) dX11_more_27 rfl ?_
        exact r_iret (ty := .int) dX11_more_28 rfl rfl rfl
      refine r_aload_n dX11_more_29 rfl ?_
      refine r_getf (v := .ref (G.2.2.2 (53))) dX11_more_30 fX_0_7 kX11 (by decide) lkf_X11_69 rfl ?_
      refine r_iload_n dX11_more_33 rfl ?_
      refine r_iload_n dX11_more_34 rfl ?_
      refine r_iconst (x := 0) dX11_more_35 rfl ?_
      refine r_iload_n dX11_more_36 rfl ?_
      refine c_IM (inv_V (mi := mi_X11_more) (b := 53) (rest := []) (X8_tell_ok G x1 x2 0 x3 M) rfl (by decide) dX11_more_37 lkm_X11_273 cal_X8_tell cX_53 rfl rfl (Nat.le_of_ble_eq_true rfl) rfl) (fun v4 M5 => ?_)
      exact r_iret (ty := .int) dX11_more_40 rfl rfl rfl
    refine r_iconst (x := (-1)) dX11_more_27 rfl ?_
    exact r_iret (ty := .int) dX11_more_28 rfl rfl rfl
  refine r_iconst (x := (-1)) dX11_more_27 rfl ?_
  exact r_iret (ty := .int) dX11_more_28 rfl rfl rfl

theorem dX8_takeBack_0 : decode cX8_takeBack 0 = .ok (.iload_n 1, 1) := by decide +kernel
theorem dX8_takeBack_1 : decode cX8_takeBack 1 = .ok (.ifCond .lt 23, 3) := by decide +kernel
theorem dX8_takeBack_4 : decode cX8_takeBack 4 = .ok (.iload_n 1, 1) := by decide +kernel
theorem dX8_takeBack_5 : decode cX8_takeBack 5 = .ok (.aload_n 0, 1) := by decide +kernel
theorem dX8_takeBack_6 : decode cX8_takeBack 6 = .ok (.getfield 43, 3) := by decide +kernel
theorem dX8_takeBack_9 : decode cX8_takeBack 9 = .ok (.if_icmp .ge 15, 3) := by decide +kernel
theorem dX8_takeBack_12 : decode cX8_takeBack 12 = .ok (.aload_n 0, 1) := by decide +kernel
theorem dX8_takeBack_13 : decode cX8_takeBack 13 = .ok (.getfield 27, 3) := by decide +kernel
theorem dX8_takeBack_16 : decode cX8_takeBack 16 = .ok (.iload_n 1, 1) := by decide +kernel
theorem dX8_takeBack_17 : decode cX8_takeBack 17 = .ok (.invokestatic 54, 3) := by decide +kernel
theorem dX8_takeBack_20 : decode cX8_takeBack 20 = .ok (.iconst (-1), 1) := by decide +kernel
theorem dX8_takeBack_21 : decode cX8_takeBack 21 = .ok (.if_icmp .eq 5, 3) := by decide +kernel
theorem dX8_takeBack_24 : decode cX8_takeBack 24 = .ok (.iconst 0, 1) := by decide +kernel
theorem dX8_takeBack_25 : decode cX8_takeBack 25 = .ok (.ireturn, 1) := by decide +kernel
theorem dX8_takeBack_26 : decode cX8_takeBack 26 = .ok (.aload_n 0, 1) := by decide +kernel
theorem dX8_takeBack_27 : decode cX8_takeBack 27 = .ok (.getfield 27, 3) := by decide +kernel
theorem dX8_takeBack_30 : decode cX8_takeBack 30 = .ok (.iload_n 1, 1) := by decide +kernel
theorem dX8_takeBack_31 : decode cX8_takeBack 31 = .ok (.aload_n 0, 1) := by decide +kernel
theorem dX8_takeBack_32 : decode cX8_takeBack 32 = .ok (.getfield 51, 3) := by decide +kernel
theorem dX8_takeBack_35 : decode cX8_takeBack 35 = .ok (.invokestatic 47, 3) := by decide +kernel
theorem dX8_takeBack_38 : decode cX8_takeBack 38 = .ok (.iconst 1, 1) := by decide +kernel
theorem dX8_takeBack_39 : decode cX8_takeBack 39 = .ok (.ireturn, 1) := by decide +kernel
abbrev mi_X8_takeBack : MI := (zTX, RX8, yX8_takeBack, cX8_takeBack, 2, (some .boolean), 3)
theorem cal_X8_takeBack : zCalV mi_X8_takeBack 1 := ⟨⟨zTB_i6 4 (by decide +kernel), zTB_i6 2 (by decide +kernel), zTB_i6 3 (by decide +kernel), zTB_i1 12 (by decide +kernel)⟩, ⟨by decide, by decide, by decide +kernel⟩, by decide⟩
noncomputable def X8_takeBack (x1 : Int32) (M : Mem) : Bool × Mem :=
  if x1 < 0 then
    (false, M)
  else
  if (M.1 53 7) ≤ x1 then
    (false, M)
  else
  if (X11_cell 59 x1 M) = (-1) then
    lt_ (X11_put 59 x1 (M.1 53 8) M) fun M4 =>
    (true, M4)
  else
  (false, M)
set_option maxRecDepth 100000 in
set_option maxHeartbeats 4000000 in
theorem X8_takeBack_ok (G : Gh) (x1 : Int32) (M : Mem) : Mt G mi_X8_takeBack [.ref (G.2.2.2 (53)), .int x1] M (dZM (X8_takeBack x1 M)) := by
  refine Mt_of (lv := [some (.ref (G.2.2.2 (53))), some (.int x1)]) (by decide) rfl (Nat.le_of_ble_eq_true rfl) rfl ?_
  unfold X8_takeBack
  refine r_iload_n dX8_takeBack_0 rfl ?_
  refine r_if_lt (tgt := 24) dX8_takeBack_1 rfl (fun h1 => ?_) (fun h1 => ?_)
  · refine r_iconst (x := 0) dX8_takeBack_24 rfl ?_
    exact r_iret (ty := .boolean) dX8_takeBack_25 rfl rfl rfl
  refine r_iload_n dX8_takeBack_4 rfl ?_
  refine r_aload_n dX8_takeBack_5 rfl ?_
  refine r_getf (v := .int (M.1 53 7)) dX8_takeBack_6 fX_53_7 kX8 (by decide) lkf_X8_43 rfl ?_
  refine r_icmp_ge (tgt := 24) dX8_takeBack_9 rfl (fun h2 => ?_) (fun h2 => ?_)
  · refine r_iconst (x := 0) dX8_takeBack_24 rfl ?_
    exact r_iret (ty := .boolean) dX8_takeBack_25 rfl rfl rfl
  refine r_aload_n dX8_takeBack_12 rfl ?_
  refine r_getf (v := .ref (G.2.2.2 (59))) dX8_takeBack_13 fX_53_6 kX8 (by decide) lkf_X8_27 rfl ?_
  refine r_iload_n dX8_takeBack_16 rfl ?_
  refine c_I (inv_SN (mi := mi_X8_takeBack) (rest := []) (X11_cell_ok G aX_59p x1 M) rfl (by decide) dX8_takeBack_17 lkm_X8_54 cal_X11_cell rfl (Nat.le_of_ble_eq_true rfl) rfl) ?_
  refine r_iconst (x := (-1)) dX8_takeBack_20 rfl ?_
  refine r_icmp_eq (tgt := 26) dX8_takeBack_21 rfl (fun h3 => ?_) (fun h3 => ?_)
  · refine r_aload_n dX8_takeBack_26 rfl ?_
    refine r_getf (v := .ref (G.2.2.2 (59))) dX8_takeBack_27 fX_53_6 kX8 (by decide) lkf_X8_27 rfl ?_
    refine r_iload_n dX8_takeBack_30 rfl ?_
    refine r_aload_n dX8_takeBack_31 rfl ?_
    refine r_getf (v := .int (M.1 53 8)) dX8_takeBack_32 fX_53_8 kX8 (by decide) lkf_X8_51 rfl ?_
    refine c_V (inv_SN (mi := mi_X8_takeBack) (rest := []) (X11_put_ok G aX_59p x1 (M.1 53 8) M) rfl (by decide) dX8_takeBack_35 lkm_X8_47 cal_X11_put rfl (Nat.le_of_ble_eq_true rfl) rfl) (fun M4 => ?_)
    refine r_iconst (x := 1) dX8_takeBack_38 rfl ?_
    exact r_iret (ty := .boolean) dX8_takeBack_39 rfl rfl rfl
  refine r_iconst (x := 0) dX8_takeBack_24 rfl ?_
  exact r_iret (ty := .boolean) dX8_takeBack_25 rfl rfl rfl

theorem dX11_untell_0 : decode cX11_untell 0 = .ok (.aload_n 0, 1) := by decide +kernel
theorem dX11_untell_1 : decode cX11_untell 1 = .ok (.getfield 69, 3) := by decide +kernel
theorem dX11_untell_4 : decode cX11_untell 4 = .ok (.iload_n 1, 1) := by decide +kernel
theorem dX11_untell_5 : decode cX11_untell 5 = .ok (.invokevirtual 277, 3) := by decide +kernel
theorem dX11_untell_8 : decode cX11_untell 8 = .ok (.ireturn, 1) := by decide +kernel
abbrev mi_X11_untell : MI := (zTX, RX11, yX11_untell, cX11_untell, 2, (some .boolean), 4)
theorem cal_X11_untell : zCalV mi_X11_untell 1 := ⟨⟨zTB_i6 0 (by decide +kernel), zTB_i5 238 (by decide +kernel), zTB_i5 239 (by decide +kernel), zTB_i1 1 (by decide +kernel)⟩, ⟨by decide, by decide, by decide +kernel⟩, by decide⟩
noncomputable def X11_untell (x1 : Int32) (M : Mem) : Bool × Mem :=
  lp_ (X8_takeBack x1 M) fun b1 M2 =>
  (b1, M2)
set_option maxRecDepth 100000 in
set_option maxHeartbeats 4000000 in
theorem X11_untell_ok (G : Gh) (x1 : Int32) (M : Mem) : Mt G mi_X11_untell [.ref (G.2.2.2 (0)), .int x1] M (dZM (X11_untell x1 M)) := by
  refine Mt_of (lv := [some (.ref (G.2.2.2 (0))), some (.int x1)]) (by decide) rfl (Nat.le_of_ble_eq_true rfl) rfl ?_
  unfold X11_untell
  refine r_aload_n dX11_untell_0 rfl ?_
  refine r_getf (v := .ref (G.2.2.2 (53))) dX11_untell_1 fX_0_7 kX11 (by decide) lkf_X11_69 rfl ?_
  refine r_iload_n dX11_untell_4 rfl ?_
  refine c_ZM (inv_V (mi := mi_X11_untell) (b := 53) (rest := []) (X8_takeBack_ok G x1 M) rfl (by decide) dX11_untell_5 lkm_X11_277 cal_X8_takeBack cX_53 rfl rfl (Nat.le_of_ble_eq_true rfl) rfl) (fun b1 M2 => ?_)
  exact r_iret (ty := .boolean) dX11_untell_8 rfl (b2i_n _) rfl

theorem dX8_passTime_0 : decode cX8_passTime 0 = .ok (.iload_n 1, 1) := by decide +kernel
theorem dX8_passTime_1 : decode cX8_passTime 1 = .ok (.ifCond .lt 21, 3) := by decide +kernel
theorem dX8_passTime_4 : decode cX8_passTime 4 = .ok (.iload_n 1, 1) := by decide +kernel
theorem dX8_passTime_5 : decode cX8_passTime 5 = .ok (.sipush 1000, 3) := by decide +kernel
theorem dX8_passTime_8 : decode cX8_passTime 8 = .ok (.if_icmp .gt 14, 3) := by decide +kernel
theorem dX8_passTime_11 : decode cX8_passTime 11 = .ok (.aload_n 0, 1) := by decide +kernel
theorem dX8_passTime_12 : decode cX8_passTime 12 = .ok (.getfield 51, 3) := by decide +kernel
theorem dX8_passTime_15 : decode cX8_passTime 15 = .ok (.iload_n 1, 1) := by decide +kernel
theorem dX8_passTime_16 : decode cX8_passTime 16 = .ok (.iadd, 1) := by decide +kernel
theorem dX8_passTime_17 : decode cX8_passTime 17 = .ok (.ldc 58, 2) := by decide +kernel
theorem dX8_passTime_19 : decode cX8_passTime 19 = .ok (.if_icmp .le 5, 3) := by decide +kernel
theorem dX8_passTime_22 : decode cX8_passTime 22 = .ok (.iconst (-1), 1) := by decide +kernel
theorem dX8_passTime_23 : decode cX8_passTime 23 = .ok (.ireturn, 1) := by decide +kernel
theorem dX8_passTime_24 : decode cX8_passTime 24 = .ok (.aload_n 0, 1) := by decide +kernel
theorem dX8_passTime_25 : decode cX8_passTime 25 = .ok (.dup, 1) := by decide +kernel
theorem dX8_passTime_26 : decode cX8_passTime 26 = .ok (.getfield 51, 3) := by decide +kernel
theorem dX8_passTime_29 : decode cX8_passTime 29 = .ok (.iload_n 1, 1) := by decide +kernel
theorem dX8_passTime_30 : decode cX8_passTime 30 = .ok (.iadd, 1) := by decide +kernel
theorem dX8_passTime_31 : decode cX8_passTime 31 = .ok (.putfield 51, 3) := by decide +kernel
theorem dX8_passTime_34 : decode cX8_passTime 34 = .ok (.aload_n 0, 1) := by decide +kernel
theorem dX8_passTime_35 : decode cX8_passTime 35 = .ok (.getfield 51, 3) := by decide +kernel
theorem dX8_passTime_38 : decode cX8_passTime 38 = .ok (.ireturn, 1) := by decide +kernel
abbrev mi_X8_passTime : MI := (zTX, RX8, yX8_passTime, cX8_passTime, 2, (some .int), 2)
theorem cal_X8_passTime : zCalV mi_X8_passTime 1 := ⟨⟨zTB_i6 13 (by decide +kernel), zTB_i6 11 (by decide +kernel), zTB_i6 12 (by decide +kernel), zTB_i1 12 (by decide +kernel)⟩, ⟨by decide, by decide, by decide +kernel⟩, by decide⟩
noncomputable def X8_passTime (x1 : Int32) (M : Mem) : Int32 × Mem :=
  if x1 < 0 then
    ((-1), M)
  else
  if 1000 < x1 then
    ((-1), M)
  else
  if ((M.1 53 8) + x1) ≤ 100000 then
    lt_ (uI M 53 8 ((M.1 53 8) + x1)) fun M4 =>
    (M4.1 53 8, M4)
  else
  ((-1), M)
set_option maxRecDepth 100000 in
set_option maxHeartbeats 4000000 in
theorem X8_passTime_ok (G : Gh) (x1 : Int32) (M : Mem) : Mt G mi_X8_passTime [.ref (G.2.2.2 (53)), .int x1] M (dIM (X8_passTime x1 M)) := by
  refine Mt_of (lv := [some (.ref (G.2.2.2 (53))), some (.int x1)]) (by decide) rfl (Nat.le_of_ble_eq_true rfl) rfl ?_
  unfold X8_passTime
  refine r_iload_n dX8_passTime_0 rfl ?_
  refine r_if_lt (tgt := 22) dX8_passTime_1 rfl (fun h1 => ?_) (fun h1 => ?_)
  · refine r_iconst (x := (-1)) dX8_passTime_22 rfl ?_
    exact r_iret (ty := .int) dX8_passTime_23 rfl rfl rfl
  refine r_iload_n dX8_passTime_4 rfl ?_
  refine r_sipush (x := 1000) dX8_passTime_5 rfl ?_
  refine r_icmp_gt (tgt := 22) dX8_passTime_8 rfl (fun h2 => ?_) (fun h2 => ?_)
  · refine r_iconst (x := (-1)) dX8_passTime_22 rfl ?_
    exact r_iret (ty := .int) dX8_passTime_23 rfl rfl rfl
  refine r_aload_n dX8_passTime_11 rfl ?_
  refine r_getf (v := .int (M.1 53 8)) dX8_passTime_12 fX_53_8 kX8 (by decide) lkf_X8_51 rfl ?_
  refine r_iload_n dX8_passTime_15 rfl ?_
  refine r_iadd dX8_passTime_16 ?_
  refine r_ldcI (x := 100000) dX8_passTime_17 lkc_X8_58 ?_
  refine r_icmp_le (tgt := 24) dX8_passTime_19 rfl (fun h3 => ?_) (fun h3 => ?_)
  · refine r_aload_n dX8_passTime_24 rfl ?_
    refine r_dup dX8_passTime_25 rfl ?_
    refine r_getf (v := .int (M.1 53 8)) dX8_passTime_26 fX_53_8 kX8 (by decide) lkf_X8_51 rfl ?_
    refine r_iload_n dX8_passTime_29 rfl ?_
    refine r_iadd dX8_passTime_30 ?_
    refine r_putI dX8_passTime_31 fX_53_8 kX8 (by decide) rfl rfl lkf_X8_51 (fun _ => rfl) rfl rfl (fun M4 => ?_)
    refine r_aload_n dX8_passTime_34 rfl ?_
    refine r_getf (v := .int (M4.1 53 8)) dX8_passTime_35 fX_53_8 kX8 (by decide) lkf_X8_51 rfl ?_
    exact r_iret (ty := .int) dX8_passTime_38 rfl rfl rfl
  refine r_iconst (x := (-1)) dX8_passTime_22 rfl ?_
  exact r_iret (ty := .int) dX8_passTime_23 rfl rfl rfl

theorem dX11_later_0 : decode cX11_later 0 = .ok (.aload_n 0, 1) := by decide +kernel
theorem dX11_later_1 : decode cX11_later 1 = .ok (.getfield 69, 3) := by decide +kernel
theorem dX11_later_4 : decode cX11_later 4 = .ok (.iload_n 1, 1) := by decide +kernel
theorem dX11_later_5 : decode cX11_later 5 = .ok (.invokevirtual 280, 3) := by decide +kernel
theorem dX11_later_8 : decode cX11_later 8 = .ok (.ireturn, 1) := by decide +kernel
abbrev mi_X11_later : MI := (zTX, RX11, yX11_later, cX11_later, 2, (some .int), 3)
theorem cal_X11_later : zCalV mi_X11_later 1 := ⟨⟨zTB_i6 9 (by decide +kernel), zTB_i6 7 (by decide +kernel), zTB_i6 8 (by decide +kernel), zTB_i1 1 (by decide +kernel)⟩, ⟨by decide, by decide, by decide +kernel⟩, by decide⟩
noncomputable def X11_later (x1 : Int32) (M : Mem) : Int32 × Mem :=
  lp_ (X8_passTime x1 M) fun v1 M2 =>
  (v1, M2)
set_option maxRecDepth 100000 in
set_option maxHeartbeats 4000000 in
theorem X11_later_ok (G : Gh) (x1 : Int32) (M : Mem) : Mt G mi_X11_later [.ref (G.2.2.2 (0)), .int x1] M (dIM (X11_later x1 M)) := by
  refine Mt_of (lv := [some (.ref (G.2.2.2 (0))), some (.int x1)]) (by decide) rfl (Nat.le_of_ble_eq_true rfl) rfl ?_
  unfold X11_later
  refine r_aload_n dX11_later_0 rfl ?_
  refine r_getf (v := .ref (G.2.2.2 (53))) dX11_later_1 fX_0_7 kX11 (by decide) lkf_X11_69 rfl ?_
  refine r_iload_n dX11_later_4 rfl ?_
  refine c_IM (inv_V (mi := mi_X11_later) (b := 53) (rest := []) (X8_passTime_ok G x1 M) rfl (by decide) dX11_later_5 lkm_X11_280 cal_X8_passTime cX_53 rfl rfl (Nat.le_of_ble_eq_true rfl) rfl) (fun v1 M2 => ?_)
  exact r_iret (ty := .int) dX11_later_8 rfl rfl rfl

theorem dX8_isKnown_0 : decode cX8_isKnown 0 = .ok (.aload_n 0, 1) := by decide +kernel
theorem dX8_isKnown_1 : decode cX8_isKnown 1 = .ok (.getfield 27, 3) := by decide +kernel
theorem dX8_isKnown_4 : decode cX8_isKnown 4 = .ok (.iload_n 1, 1) := by decide +kernel
theorem dX8_isKnown_5 : decode cX8_isKnown 5 = .ok (.invokestatic 54, 3) := by decide +kernel
theorem dX8_isKnown_8 : decode cX8_isKnown 8 = .ok (.istore_n 3, 1) := by decide +kernel
theorem dX8_isKnown_9 : decode cX8_isKnown 9 = .ok (.aload_n 0, 1) := by decide +kernel
theorem dX8_isKnown_10 : decode cX8_isKnown 10 = .ok (.getfield 24, 3) := by decide +kernel
theorem dX8_isKnown_13 : decode cX8_isKnown 13 = .ok (.iload_n 1, 1) := by decide +kernel
theorem dX8_isKnown_14 : decode cX8_isKnown 14 = .ok (.invokestatic 54, 3) := by decide +kernel
theorem dX8_isKnown_17 : decode cX8_isKnown 17 = .ok (.iload_n 2, 1) := by decide +kernel
theorem dX8_isKnown_18 : decode cX8_isKnown 18 = .ok (.if_icmp .gt 17, 3) := by decide +kernel
theorem dX8_isKnown_21 : decode cX8_isKnown 21 = .ok (.iload_n 3, 1) := by decide +kernel
theorem dX8_isKnown_22 : decode cX8_isKnown 22 = .ok (.iconst (-1), 1) := by decide +kernel
theorem dX8_isKnown_23 : decode cX8_isKnown 23 = .ok (.if_icmp .eq 8, 3) := by decide +kernel
theorem dX8_isKnown_26 : decode cX8_isKnown 26 = .ok (.iload_n 3, 1) := by decide +kernel
theorem dX8_isKnown_27 : decode cX8_isKnown 27 = .ok (.iload_n 2, 1) := by decide +kernel
theorem dX8_isKnown_28 : decode cX8_isKnown 28 = .ok (.if_icmp .le 7, 3) := by decide +kernel
theorem dX8_isKnown_31 : decode cX8_isKnown 31 = .ok (.iconst 1, 1) := by decide +kernel
theorem dX8_isKnown_32 : decode cX8_isKnown 32 = .ok (.goto 4, 3) := by decide +kernel
theorem dX8_isKnown_35 : decode cX8_isKnown 35 = .ok (.iconst 0, 1) := by decide +kernel
theorem dX8_isKnown_36 : decode cX8_isKnown 36 = .ok (.ireturn, 1) := by decide +kernel
abbrev mi_X8_isKnown : MI := (zTX, RX8, yX8_isKnown, cX8_isKnown, 4, (some .boolean), 3)
theorem cal_X8_isKnown : zCalV mi_X8_isKnown 2 := ⟨⟨zTB_i6 35 (by decide +kernel), zTB_i6 34 (by decide +kernel), zTB_i0 42 (by decide +kernel), zTB_i1 12 (by decide +kernel)⟩, ⟨by decide, by decide, by decide +kernel⟩, by decide⟩
noncomputable def X8_isKnown (x1 : Int32) (x2 : Int32) (M : Mem) : Bool :=
  lt_ (α := Int32) ((X11_cell 59 x1 M)) fun y1 =>
  if x2 < (X11_cell 58 x1 M) then
    false
  else
  if y1 = (-1) then
    true
  else
  if y1 ≤ x2 then
    false
  else
  true
set_option maxRecDepth 100000 in
set_option maxHeartbeats 4000000 in
theorem X8_isKnown_ok (G : Gh) (x1 : Int32) (x2 : Int32) (M : Mem) : Mt G mi_X8_isKnown [.ref (G.2.2.2 (53)), .int x1, .int x2] M ((dZ M) (X8_isKnown x1 x2 M)) := by
  refine Mt_of (lv := [some (.ref (G.2.2.2 (53))), some (.int x1), some (.int x2)]) (by decide) rfl (Nat.le_of_ble_eq_true rfl) rfl ?_
  refine r_le (lv' := [some (.ref (G.2.2.2 (53))), some (.int x1), some (.int x2), none]) (And.intro rfl (And.intro rfl (And.intro rfl True.intro))) ?_
  unfold X8_isKnown
  refine r_aload_n dX8_isKnown_0 rfl ?_
  refine r_getf (v := .ref (G.2.2.2 (59))) dX8_isKnown_1 fX_53_6 kX8 (by decide) lkf_X8_27 rfl ?_
  refine r_iload_n dX8_isKnown_4 rfl ?_
  refine c_I (inv_SN (mi := mi_X8_isKnown) (rest := []) (X11_cell_ok G aX_59p x1 M) rfl (by decide) dX8_isKnown_5 lkm_X8_54 cal_X11_cell rfl (Nat.le_of_ble_eq_true rfl) rfl) ?_
  refine r_letI (fun y1 => ?_)
  refine r_istore_n (lv' := [some (.ref (G.2.2.2 (53))), some (.int x1), some (.int x2), some (.int y1)]) dX8_isKnown_8 (Nat.le_of_ble_eq_true rfl) rfl rfl ?_
  refine r_aload_n dX8_isKnown_9 rfl ?_
  refine r_getf (v := .ref (G.2.2.2 (58))) dX8_isKnown_10 fX_53_5 kX8 (by decide) lkf_X8_24 rfl ?_
  refine r_iload_n dX8_isKnown_13 rfl ?_
  refine c_I (inv_SN (mi := mi_X8_isKnown) (rest := []) (X11_cell_ok G aX_58p x1 M) rfl (by decide) dX8_isKnown_14 lkm_X8_54 cal_X11_cell rfl (Nat.le_of_ble_eq_true rfl) rfl) ?_
  refine r_iload_n dX8_isKnown_17 rfl ?_
  refine r_icmp_gt (tgt := 35) dX8_isKnown_18 rfl (fun h2 => ?_) (fun h2 => ?_)
  · refine r_iconst (x := 0) dX8_isKnown_35 rfl ?_
    exact r_iret (ty := .boolean) dX8_isKnown_36 rfl rfl rfl
  refine r_iload_n dX8_isKnown_21 rfl ?_
  refine r_iconst (x := (-1)) dX8_isKnown_22 rfl ?_
  refine r_icmp_eq (tgt := 31) dX8_isKnown_23 rfl (fun h3 => ?_) (fun h3 => ?_)
  · refine r_iconst (x := 1) dX8_isKnown_31 rfl ?_
    refine r_goto (tgt := 36) dX8_isKnown_32 rfl ?_
    exact r_iret (ty := .boolean) dX8_isKnown_36 rfl rfl rfl
  refine r_iload_n dX8_isKnown_26 rfl ?_
  refine r_iload_n dX8_isKnown_27 rfl ?_
  refine r_icmp_le (tgt := 35) dX8_isKnown_28 rfl (fun h4 => ?_) (fun h4 => ?_)
  · refine r_iconst (x := 0) dX8_isKnown_35 rfl ?_
    exact r_iret (ty := .boolean) dX8_isKnown_36 rfl rfl rfl
  refine r_iconst (x := 1) dX8_isKnown_31 rfl ?_
  refine r_goto (tgt := 36) dX8_isKnown_32 rfl ?_
  exact r_iret (ty := .boolean) dX8_isKnown_36 rfl rfl rfl

theorem dX8_tellsOf_0 : decode cX8_tellsOf 0 = .ok (.aload_n 0, 1) := by decide +kernel
theorem dX8_tellsOf_1 : decode cX8_tellsOf 1 = .ok (.getfield 39, 3) := by decide +kernel
theorem dX8_tellsOf_4 : decode cX8_tellsOf 4 = .ok (.getfield 88, 3) := by decide +kernel
theorem dX8_tellsOf_7 : decode cX8_tellsOf 7 = .ok (.aload_n 0, 1) := by decide +kernel
theorem dX8_tellsOf_8 : decode cX8_tellsOf 8 = .ok (.getfield 30, 3) := by decide +kernel
theorem dX8_tellsOf_11 : decode cX8_tellsOf 11 = .ok (.iload_n 1, 1) := by decide +kernel
theorem dX8_tellsOf_12 : decode cX8_tellsOf 12 = .ok (.invokestatic 54, 3) := by decide +kernel
theorem dX8_tellsOf_15 : decode cX8_tellsOf 15 = .ok (.invokestatic 54, 3) := by decide +kernel
theorem dX8_tellsOf_18 : decode cX8_tellsOf 18 = .ok (.ireturn, 1) := by decide +kernel
abbrev mi_X8_tellsOf : MI := (zTX, RX8, yX8_tellsOf, cX8_tellsOf, 2, (some .int), 3)
theorem cal_X8_tellsOf : zCalV mi_X8_tellsOf 1 := ⟨⟨zTB_i6 43 (by decide +kernel), zTB_i6 42 (by decide +kernel), zTB_i0 44 (by decide +kernel), zTB_i1 12 (by decide +kernel)⟩, ⟨by decide, by decide, by decide +kernel⟩, by decide⟩
noncomputable def X8_tellsOf (x1 : Int32) (M : Mem) : Int32 :=
  (X11_cell 31 (X11_cell 60 x1 M) M)
set_option maxRecDepth 100000 in
set_option maxHeartbeats 4000000 in
theorem X8_tellsOf_ok (G : Gh) (x1 : Int32) (M : Mem) : Mt G mi_X8_tellsOf [.ref (G.2.2.2 (53)), .int x1] M ((dI M) (X8_tellsOf x1 M)) := by
  refine Mt_of (lv := [some (.ref (G.2.2.2 (53))), some (.int x1)]) (by decide) rfl (Nat.le_of_ble_eq_true rfl) rfl ?_
  unfold X8_tellsOf
  refine r_aload_n dX8_tellsOf_0 rfl ?_
  refine r_getf (v := .ref (G.2.2.2 (23))) dX8_tellsOf_1 fX_53_0 kX8 (by decide) lkf_X8_39 rfl ?_
  refine r_getf (v := .ref (G.2.2.2 (31))) dX8_tellsOf_4 fX_23_13 kX3 (by decide) lkf_X8_88 rfl ?_
  refine r_aload_n dX8_tellsOf_7 rfl ?_
  refine r_getf (v := .ref (G.2.2.2 (60))) dX8_tellsOf_8 fX_53_9 kX8 (by decide) lkf_X8_30 rfl ?_
  refine r_iload_n dX8_tellsOf_11 rfl ?_
  refine c_I (inv_SN (mi := mi_X8_tellsOf) (rest := [.ref (G.2.2.2 (31))]) (X11_cell_ok G aX_60p x1 M) rfl (by decide) dX8_tellsOf_12 lkm_X8_54 cal_X11_cell rfl (Nat.le_of_ble_eq_true rfl) rfl) ?_
  refine c_I (inv_SN (mi := mi_X8_tellsOf) (rest := []) (X11_cell_ok G aX_31p (X11_cell 60 x1 M) M) rfl (by decide) dX8_tellsOf_15 lkm_X8_54 cal_X11_cell rfl (Nat.le_of_ble_eq_true rfl) rfl) ?_
  exact r_iret (ty := .int) dX8_tellsOf_18 rfl rfl rfl

theorem dX8_agrees_0 : decode cX8_agrees 0 = .ok (.aload_n 0, 1) := by decide +kernel
theorem dX8_agrees_1 : decode cX8_agrees 1 = .ok (.aload_n 0, 1) := by decide +kernel
theorem dX8_agrees_2 : decode cX8_agrees 2 = .ok (.getfield 11, 3) := by decide +kernel
theorem dX8_agrees_5 : decode cX8_agrees 5 = .ok (.iload_n 1, 1) := by decide +kernel
theorem dX8_agrees_6 : decode cX8_agrees 6 = .ok (.invokestatic 54, 3) := by decide +kernel
theorem dX8_agrees_9 : decode cX8_agrees 9 = .ok (.invokevirtual 84, 3) := by decide +kernel
theorem dX8_agrees_12 : decode cX8_agrees 12 = .ok (.istore_n 2, 1) := by decide +kernel
theorem dX8_agrees_13 : decode cX8_agrees 13 = .ok (.aload_n 0, 1) := by decide +kernel
theorem dX8_agrees_14 : decode cX8_agrees 14 = .ok (.getfield 15, 3) := by decide +kernel
theorem dX8_agrees_17 : decode cX8_agrees 17 = .ok (.iload_n 1, 1) := by decide +kernel
theorem dX8_agrees_18 : decode cX8_agrees 18 = .ok (.invokestatic 54, 3) := by decide +kernel
theorem dX8_agrees_21 : decode cX8_agrees 21 = .ok (.istore_n 3, 1) := by decide +kernel
theorem dX8_agrees_22 : decode cX8_agrees 22 = .ok (.iload_n 3, 1) := by decide +kernel
theorem dX8_agrees_23 : decode cX8_agrees 23 = .ok (.iconst (-1), 1) := by decide +kernel
theorem dX8_agrees_24 : decode cX8_agrees 24 = .ok (.if_icmp .ne 23, 3) := by decide +kernel
theorem dX8_agrees_27 : decode cX8_agrees 27 = .ok (.iload_n 2, 1) := by decide +kernel
theorem dX8_agrees_28 : decode cX8_agrees 28 = .ok (.aload_n 0, 1) := by decide +kernel
theorem dX8_agrees_29 : decode cX8_agrees 29 = .ok (.getfield 18, 3) := by decide +kernel
theorem dX8_agrees_32 : decode cX8_agrees 32 = .ok (.iload_n 1, 1) := by decide +kernel
theorem dX8_agrees_33 : decode cX8_agrees 33 = .ok (.invokestatic 54, 3) := by decide +kernel
theorem dX8_agrees_36 : decode cX8_agrees 36 = .ok (.if_icmp .lt 7, 3) := by decide +kernel
theorem dX8_agrees_39 : decode cX8_agrees 39 = .ok (.iconst 1, 1) := by decide +kernel
theorem dX8_agrees_40 : decode cX8_agrees 40 = .ok (.goto 21, 3) := by decide +kernel
theorem dX8_agrees_43 : decode cX8_agrees 43 = .ok (.iconst 0, 1) := by decide +kernel
theorem dX8_agrees_44 : decode cX8_agrees 44 = .ok (.goto 17, 3) := by decide +kernel
theorem dX8_agrees_47 : decode cX8_agrees 47 = .ok (.iload_n 2, 1) := by decide +kernel
theorem dX8_agrees_48 : decode cX8_agrees 48 = .ok (.aload_n 0, 1) := by decide +kernel
theorem dX8_agrees_49 : decode cX8_agrees 49 = .ok (.iload_n 3, 1) := by decide +kernel
theorem dX8_agrees_50 : decode cX8_agrees 50 = .ok (.invokevirtual 84, 3) := by decide +kernel
theorem dX8_agrees_53 : decode cX8_agrees 53 = .ok (.if_icmp .le 7, 3) := by decide +kernel
theorem dX8_agrees_56 : decode cX8_agrees 56 = .ok (.iconst 1, 1) := by decide +kernel
theorem dX8_agrees_57 : decode cX8_agrees 57 = .ok (.goto 4, 3) := by decide +kernel
theorem dX8_agrees_60 : decode cX8_agrees 60 = .ok (.iconst 0, 1) := by decide +kernel
theorem dX8_agrees_61 : decode cX8_agrees 61 = .ok (.istore 4, 2) := by decide +kernel
theorem dX8_agrees_63 : decode cX8_agrees 63 = .ok (.iload 4, 2) := by decide +kernel
theorem dX8_agrees_65 : decode cX8_agrees 65 = .ok (.aload_n 0, 1) := by decide +kernel
theorem dX8_agrees_66 : decode cX8_agrees 66 = .ok (.getfield 21, 3) := by decide +kernel
theorem dX8_agrees_69 : decode cX8_agrees 69 = .ok (.iload_n 1, 1) := by decide +kernel
theorem dX8_agrees_70 : decode cX8_agrees 70 = .ok (.invokestatic 54, 3) := by decide +kernel
theorem dX8_agrees_73 : decode cX8_agrees 73 = .ok (.ifCond .eq 7, 3) := by decide +kernel
theorem dX8_agrees_76 : decode cX8_agrees 76 = .ok (.iconst 1, 1) := by decide +kernel
theorem dX8_agrees_77 : decode cX8_agrees 77 = .ok (.goto 4, 3) := by decide +kernel
theorem dX8_agrees_80 : decode cX8_agrees 80 = .ok (.iconst 0, 1) := by decide +kernel
theorem dX8_agrees_81 : decode cX8_agrees 81 = .ok (.if_icmp .ne 7, 3) := by decide +kernel
theorem dX8_agrees_84 : decode cX8_agrees 84 = .ok (.iconst 1, 1) := by decide +kernel
theorem dX8_agrees_85 : decode cX8_agrees 85 = .ok (.goto 4, 3) := by decide +kernel
theorem dX8_agrees_88 : decode cX8_agrees 88 = .ok (.iconst 0, 1) := by decide +kernel
theorem dX8_agrees_89 : decode cX8_agrees 89 = .ok (.ireturn, 1) := by decide +kernel
abbrev mi_X8_agrees : MI := (zTX, RX8, yX8_agrees, cX8_agrees, 5, (some .boolean), 4)
theorem cal_X8_agrees : zCalV mi_X8_agrees 1 := ⟨⟨zTB_i6 39 (by decide +kernel), zTB_i6 38 (by decide +kernel), zTB_i0 43 (by decide +kernel), zTB_i1 12 (by decide +kernel)⟩, ⟨by decide, by decide, by decide +kernel⟩, by decide⟩
noncomputable def X8_agrees (x1 : Int32) (M : Mem) : Bool :=
  lt_ (α := Int32) ((X8_tellsOf (X11_cell 54 x1 M) M)) fun y1 =>
  lt_ (α := Int32) ((X11_cell 55 x1 M)) fun y2 =>
  l1_ (α := Int32) (
    if y2 = (-1) then
      if y1 < (X11_cell 56 x1 M) then
        0
      else
      1
    else
    if y1 ≤ (X8_tellsOf y2 M) then
      0
    else
    1) fun y6 =>
  l1_ (α := Int32) (
    if (X11_cell 57 x1 M) = 0 then
      0
    else
    1) fun y8 =>
  if y6 = y8 then
    true
  else
  false
set_option maxRecDepth 100000 in
set_option maxHeartbeats 4000000 in
theorem X8_agrees_ok (G : Gh) (x1 : Int32) (M : Mem) : Mt G mi_X8_agrees [.ref (G.2.2.2 (53)), .int x1] M ((dZ M) (X8_agrees x1 M)) := by
  refine Mt_of (lv := [some (.ref (G.2.2.2 (53))), some (.int x1)]) (by decide) rfl (Nat.le_of_ble_eq_true rfl) rfl ?_
  refine r_le (lv' := [some (.ref (G.2.2.2 (53))), some (.int x1), none, none, none]) (And.intro rfl (And.intro rfl True.intro)) ?_
  unfold X8_agrees
  refine r_aload_n dX8_agrees_0 rfl ?_
  refine r_aload_n dX8_agrees_1 rfl ?_
  refine r_getf (v := .ref (G.2.2.2 (54))) dX8_agrees_2 fX_53_1 kX8 (by decide) lkf_X8_11 rfl ?_
  refine r_iload_n dX8_agrees_5 rfl ?_
  refine c_I (inv_SN (mi := mi_X8_agrees) (rest := [.ref (G.2.2.2 (53))]) (X11_cell_ok G aX_54p x1 M) rfl (by decide) dX8_agrees_6 lkm_X8_54 cal_X11_cell rfl (Nat.le_of_ble_eq_true rfl) rfl) ?_
  refine c_I (inv_V (mi := mi_X8_agrees) (b := 53) (rest := []) (X8_tellsOf_ok G (X11_cell 54 x1 M) M) rfl (by decide) dX8_agrees_9 lkm_X8_84 cal_X8_tellsOf cX_53 rfl rfl (Nat.le_of_ble_eq_true rfl) rfl) ?_
  refine r_letI (fun y1 => ?_)
  refine r_istore_n (lv' := [some (.ref (G.2.2.2 (53))), some (.int x1), some (.int y1), none, none]) dX8_agrees_12 (Nat.le_of_ble_eq_true rfl) rfl rfl ?_
  refine r_aload_n dX8_agrees_13 rfl ?_
  refine r_getf (v := .ref (G.2.2.2 (55))) dX8_agrees_14 fX_53_2 kX8 (by decide) lkf_X8_15 rfl ?_
  refine r_iload_n dX8_agrees_17 rfl ?_
  refine c_I (inv_SN (mi := mi_X8_agrees) (rest := []) (X11_cell_ok G aX_55p x1 M) rfl (by decide) dX8_agrees_18 lkm_X8_54 cal_X11_cell rfl (Nat.le_of_ble_eq_true rfl) rfl) ?_
  refine r_letI (fun y2 => ?_)
  refine r_istore_n (lv' := [some (.ref (G.2.2.2 (53))), some (.int x1), some (.int y1), some (.int y2), none]) dX8_agrees_21 (Nat.le_of_ble_eq_true rfl) rfl rfl ?_
  refine r_iload_n dX8_agrees_22 rfl ?_
  refine r_iconst (x := (-1)) dX8_agrees_23 rfl ?_
  refine r_jL1 (j := 61) (lvj := fun y6 => [some (.ref (G.2.2.2 (53))), some (.int x1), none, none, none]) (stj := fun y6 => [.int y6]) (Mj := fun y6 => M) (fun y6 => ?_) (fun hj61 => ?_)
  · refine r_istore (lv' := [some (.ref (G.2.2.2 (53))), some (.int x1), none, none, some (.int y6)]) dX8_agrees_61 (Nat.le_of_ble_eq_true rfl) rfl rfl ?_
    refine r_iload dX8_agrees_63 rfl ?_
    refine r_aload_n dX8_agrees_65 rfl ?_
    refine r_getf (v := .ref (G.2.2.2 (57))) dX8_agrees_66 fX_53_4 kX8 (by decide) lkf_X8_21 rfl ?_
    refine r_iload_n dX8_agrees_69 rfl ?_
    refine c_I (inv_SN (mi := mi_X8_agrees) (rest := [.int y6]) (X11_cell_ok G aX_57p x1 M) rfl (by decide) dX8_agrees_70 lkm_X8_54 cal_X11_cell rfl (Nat.le_of_ble_eq_true rfl) rfl) ?_
    refine r_jL1 (j := 81) (lvj := fun y8 => [none, none, none, none, none]) (stj := fun y8 => [.int y8, .int y6]) (Mj := fun y8 => M) (fun y8 => ?_) (fun hj81 => ?_)
    · refine r_icmp_ne (tgt := 88) dX8_agrees_81 rfl (fun h9 => ?_) (fun h9 => ?_)
      · refine r_iconst (x := 1) dX8_agrees_84 rfl ?_
        refine r_goto (tgt := 89) dX8_agrees_85 rfl ?_
        exact r_iret (ty := .boolean) dX8_agrees_89 rfl rfl rfl
      refine r_iconst (x := 0) dX8_agrees_88 rfl ?_
      exact r_iret (ty := .boolean) dX8_agrees_89 rfl rfl rfl
    refine r_if_eq (tgt := 80) dX8_agrees_73 rfl (fun h7 => ?_) (fun h7 => ?_)
    · refine r_iconst (x := 0) dX8_agrees_80 rfl ?_
      exact r_lk (hj81 0) True.intro
    refine r_iconst (x := 1) dX8_agrees_76 rfl ?_
    refine r_goto (tgt := 81) dX8_agrees_77 rfl ?_
    exact r_lk (hj81 1) True.intro
  refine r_icmp_ne (tgt := 47) dX8_agrees_24 rfl (fun h3 => ?_) (fun h3 => ?_)
  · refine r_iload_n dX8_agrees_27 rfl ?_
    refine r_aload_n dX8_agrees_28 rfl ?_
    refine r_getf (v := .ref (G.2.2.2 (56))) dX8_agrees_29 fX_53_3 kX8 (by decide) lkf_X8_18 rfl ?_
    refine r_iload_n dX8_agrees_32 rfl ?_
    refine c_I (inv_SN (mi := mi_X8_agrees) (rest := [.int y1]) (X11_cell_ok G aX_56p x1 M) rfl (by decide) dX8_agrees_33 lkm_X8_54 cal_X11_cell rfl (Nat.le_of_ble_eq_true rfl) rfl) ?_
    refine r_icmp_lt (tgt := 43) dX8_agrees_36 rfl (fun h5 => ?_) (fun h5 => ?_)
    · refine r_iconst (x := 0) dX8_agrees_43 rfl ?_
      refine r_goto (tgt := 61) dX8_agrees_44 rfl ?_
      exact r_lk (hj61 0) (And.intro rfl (And.intro rfl True.intro))
    refine r_iconst (x := 1) dX8_agrees_39 rfl ?_
    refine r_goto (tgt := 61) dX8_agrees_40 rfl ?_
    exact r_lk (hj61 1) (And.intro rfl (And.intro rfl True.intro))
  refine r_iload_n dX8_agrees_47 rfl ?_
  refine r_aload_n dX8_agrees_48 rfl ?_
  refine r_iload_n dX8_agrees_49 rfl ?_
  refine c_I (inv_V (mi := mi_X8_agrees) (b := 53) (rest := [.int y1]) (X8_tellsOf_ok G y2 M) rfl (by decide) dX8_agrees_50 lkm_X8_84 cal_X8_tellsOf cX_53 rfl rfl (Nat.le_of_ble_eq_true rfl) rfl) ?_
  refine r_icmp_le (tgt := 60) dX8_agrees_53 rfl (fun h4 => ?_) (fun h4 => ?_)
  · refine r_iconst (x := 0) dX8_agrees_60 rfl ?_
    exact r_lk (hj61 0) (And.intro rfl (And.intro rfl True.intro))
  refine r_iconst (x := 1) dX8_agrees_56 rfl ?_
  refine r_goto (tgt := 61) dX8_agrees_57 rfl ?_
  exact r_lk (hj61 1) (And.intro rfl (And.intro rfl True.intro))

theorem dX8_tallyOrder_0 : decode cX8_tallyOrder 0 = .ok (.iconst 0, 1) := by decide +kernel
theorem dX8_tallyOrder_1 : decode cX8_tallyOrder 1 = .ok (.istore_n 2, 1) := by decide +kernel
theorem dX8_tallyOrder_2 : decode cX8_tallyOrder 2 = .ok (.iload_n 2, 1) := by decide +kernel
theorem dX8_tallyOrder_3 : decode cX8_tallyOrder 3 = .ok (.aload_n 0, 1) := by decide +kernel
theorem dX8_tallyOrder_4 : decode cX8_tallyOrder 4 = .ok (.getfield 43, 3) := by decide +kernel
theorem dX8_tallyOrder_7 : decode cX8_tallyOrder 7 = .ok (.if_icmp .ge 27, 3) := by decide +kernel
theorem dX8_tallyOrder_10 : decode cX8_tallyOrder 10 = .ok (.aload_n 0, 1) := by decide +kernel
theorem dX8_tallyOrder_11 : decode cX8_tallyOrder 11 = .ok (.iload_n 2, 1) := by decide +kernel
theorem dX8_tallyOrder_12 : decode cX8_tallyOrder 12 = .ok (.iload_n 1, 1) := by decide +kernel
theorem dX8_tallyOrder_13 : decode cX8_tallyOrder 13 = .ok (.invokevirtual 76, 3) := by decide +kernel
theorem dX8_tallyOrder_16 : decode cX8_tallyOrder 16 = .ok (.ifCond .eq 12, 3) := by decide +kernel
theorem dX8_tallyOrder_19 : decode cX8_tallyOrder 19 = .ok (.aload_n 0, 1) := by decide +kernel
theorem dX8_tallyOrder_20 : decode cX8_tallyOrder 20 = .ok (.iload_n 2, 1) := by decide +kernel
theorem dX8_tallyOrder_21 : decode cX8_tallyOrder 21 = .ok (.invokevirtual 80, 3) := by decide +kernel
theorem dX8_tallyOrder_24 : decode cX8_tallyOrder 24 = .ok (.ifCond .ne 4, 3) := by decide +kernel
theorem dX8_tallyOrder_27 : decode cX8_tallyOrder 27 = .ok (.return_, 1) := by decide +kernel
theorem dX8_tallyOrder_28 : decode cX8_tallyOrder 28 = .ok (.iinc 2 1, 3) := by decide +kernel
theorem dX8_tallyOrder_31 : decode cX8_tallyOrder 31 = .ok (.goto (-29), 3) := by decide +kernel
theorem dX8_tallyOrder_34 : decode cX8_tallyOrder 34 = .ok (.aload_n 0, 1) := by decide +kernel
theorem dX8_tallyOrder_35 : decode cX8_tallyOrder 35 = .ok (.dup, 1) := by decide +kernel
theorem dX8_tallyOrder_36 : decode cX8_tallyOrder 36 = .ok (.getfield 59, 3) := by decide +kernel
theorem dX8_tallyOrder_39 : decode cX8_tallyOrder 39 = .ok (.iconst 1, 1) := by decide +kernel
theorem dX8_tallyOrder_40 : decode cX8_tallyOrder 40 = .ok (.iadd, 1) := by decide +kernel
theorem dX8_tallyOrder_41 : decode cX8_tallyOrder 41 = .ok (.putfield 59, 3) := by decide +kernel
theorem dX8_tallyOrder_44 : decode cX8_tallyOrder 44 = .ok (.iconst 0, 1) := by decide +kernel
theorem dX8_tallyOrder_45 : decode cX8_tallyOrder 45 = .ok (.istore_n 2, 1) := by decide +kernel
theorem dX8_tallyOrder_46 : decode cX8_tallyOrder 46 = .ok (.iload_n 2, 1) := by decide +kernel
theorem dX8_tallyOrder_47 : decode cX8_tallyOrder 47 = .ok (.aload_n 0, 1) := by decide +kernel
theorem dX8_tallyOrder_48 : decode cX8_tallyOrder 48 = .ok (.getfield 39, 3) := by decide +kernel
theorem dX8_tallyOrder_51 : decode cX8_tallyOrder 51 = .ok (.invokevirtual 66, 3) := by decide +kernel
theorem dX8_tallyOrder_54 : decode cX8_tallyOrder 54 = .ok (.if_icmp .ge 40, 3) := by decide +kernel
theorem dX8_tallyOrder_57 : decode cX8_tallyOrder 57 = .ok (.iload_n 2, 1) := by decide +kernel
theorem dX8_tallyOrder_58 : decode cX8_tallyOrder 58 = .ok (.iconst 5, 1) := by decide +kernel
theorem dX8_tallyOrder_59 : decode cX8_tallyOrder 59 = .ok (.imul, 1) := by decide +kernel
theorem dX8_tallyOrder_60 : decode cX8_tallyOrder 60 = .ok (.aload_n 0, 1) := by decide +kernel
theorem dX8_tallyOrder_61 : decode cX8_tallyOrder 61 = .ok (.getfield 30, 3) := by decide +kernel
theorem dX8_tallyOrder_64 : decode cX8_tallyOrder 64 = .ok (.iload_n 2, 1) := by decide +kernel
theorem dX8_tallyOrder_65 : decode cX8_tallyOrder 65 = .ok (.invokestatic 54, 3) := by decide +kernel
theorem dX8_tallyOrder_68 : decode cX8_tallyOrder 68 = .ok (.iadd, 1) := by decide +kernel
theorem dX8_tallyOrder_69 : decode cX8_tallyOrder 69 = .ok (.istore_n 3, 1) := by decide +kernel
theorem dX8_tallyOrder_70 : decode cX8_tallyOrder 70 = .ok (.aload_n 0, 1) := by decide +kernel
theorem dX8_tallyOrder_71 : decode cX8_tallyOrder 71 = .ok (.getfield 36, 3) := by decide +kernel
theorem dX8_tallyOrder_74 : decode cX8_tallyOrder 74 = .ok (.iload_n 3, 1) := by decide +kernel
theorem dX8_tallyOrder_75 : decode cX8_tallyOrder 75 = .ok (.aload_n 0, 1) := by decide +kernel
theorem dX8_tallyOrder_76 : decode cX8_tallyOrder 76 = .ok (.getfield 36, 3) := by decide +kernel
theorem dX8_tallyOrder_79 : decode cX8_tallyOrder 79 = .ok (.iload_n 3, 1) := by decide +kernel
theorem dX8_tallyOrder_80 : decode cX8_tallyOrder 80 = .ok (.invokestatic 54, 3) := by decide +kernel
theorem dX8_tallyOrder_83 : decode cX8_tallyOrder 83 = .ok (.iconst 1, 1) := by decide +kernel
theorem dX8_tallyOrder_84 : decode cX8_tallyOrder 84 = .ok (.iadd, 1) := by decide +kernel
theorem dX8_tallyOrder_85 : decode cX8_tallyOrder 85 = .ok (.invokestatic 47, 3) := by decide +kernel
theorem dX8_tallyOrder_88 : decode cX8_tallyOrder 88 = .ok (.iinc 2 1, 3) := by decide +kernel
theorem dX8_tallyOrder_91 : decode cX8_tallyOrder 91 = .ok (.goto (-45), 3) := by decide +kernel
theorem dX8_tallyOrder_94 : decode cX8_tallyOrder 94 = .ok (.return_, 1) := by decide +kernel
abbrev mi_X8_tallyOrder : MI := (zTX, RX8, yX8_tallyOrder, cX8_tallyOrder, 4, none, 9)
theorem cal_X8_tallyOrder : zCalV mi_X8_tallyOrder 1 := ⟨⟨zTB_i6 31 (by decide +kernel), zTB_i6 30 (by decide +kernel), zTB_i0 41 (by decide +kernel), zTB_i1 12 (by decide +kernel)⟩, ⟨by decide, by decide, by decide +kernel⟩, by decide⟩
noncomputable def X8_tallyOrder_L2 : Nat → Int32 → Mem → Option (Mem)
  | 0, _, _ => none
  | n + 1, c2, M =>
    if (X3_readers 23 M) ≤ c2 then
      some M
    else
    lt_ (α := Int32) ((c2 * 5) + (X11_cell 60 c2 M)) fun y4 =>
    lt_ (X11_put 62 y4 ((X11_cell 62 y4 M) + 1) M) fun M5 =>
    X8_tallyOrder_L2 n (c2 + 1) M5
noncomputable def X8_tallyOrder_L1 (x1 : Int32) : Nat → Int32 → Mem → Option (Mem)
  | 0, _, _ => none
  | n + 1, c2, M =>
    if (M.1 53 7) ≤ c2 then
      lt_ (uI M 53 12 ((M.1 53 12) + 1)) fun M2 =>
      b1_ (α := Mem) (X8_tallyOrder_L2 zFU 0 M2) fun M6 =>
      some M6
    else
    l1_ (α := Bool) (
      if (X8_isKnown c2 x1 M) = true then
        if (X8_agrees c2 M) = true then
          true
        else
        false
      else
      true) fun t9 =>
    if t9 = true then
      X8_tallyOrder_L1 x1 n (c2 + 1) M
    else
    some M
noncomputable def X8_tallyOrder (x1 : Int32) (M : Mem) : Option (Mem) :=
  X8_tallyOrder_L1 x1 zFU 0 M
set_option maxRecDepth 100000 in
set_option maxHeartbeats 4000000 in
theorem X8_tallyOrder_L2_ok (G : Gh) {dn : Option (Mem) → Option (Option Value × Mem)} (hs : dn none = none) (hx : ∀ (M6 : Mem), Wr G mi_X8_tallyOrder dn 94 [none, none, none, none] [] M6 (some M6)) : ∀ (n : Nat) (c2 : Int32) (M : Mem), Wr G mi_X8_tallyOrder dn 46 [some (.ref (G.2.2.2 (53))), none, some (.int c2), none] [] M (X8_tallyOrder_L2 n c2 M) := by
  intro n
  induction n with
  | zero => intro c2 M; exact r_none (by exact hs)
  | succ n ih =>
    intro c2 M
    rw [X8_tallyOrder_L2]
    refine r_iload_n dX8_tallyOrder_46 rfl ?_
    refine r_aload_n dX8_tallyOrder_47 rfl ?_
    refine r_getf (v := .ref (G.2.2.2 (23))) dX8_tallyOrder_48 fX_53_0 kX8 (by decide) lkf_X8_39 rfl ?_
    refine c_I (inv_V (mi := mi_X8_tallyOrder) (b := 23) (rest := [.int c2]) (X3_readers_ok_23 G M) rfl (by decide) dX8_tallyOrder_51 lkm_X8_66 cal_X3_readers cX_23 rfl rfl (Nat.le_of_ble_eq_true rfl) rfl) ?_
    refine r_icmp_ge (tgt := 94) dX8_tallyOrder_54 rfl (fun h3 => ?_) (fun h3 => ?_)
    · exact r_lk (hx M) True.intro
    refine r_iload_n dX8_tallyOrder_57 rfl ?_
    refine r_iconst (x := 5) dX8_tallyOrder_58 rfl ?_
    refine r_imul dX8_tallyOrder_59 ?_
    refine r_aload_n dX8_tallyOrder_60 rfl ?_
    refine r_getf (v := .ref (G.2.2.2 (60))) dX8_tallyOrder_61 fX_53_9 kX8 (by decide) lkf_X8_30 rfl ?_
    refine r_iload_n dX8_tallyOrder_64 rfl ?_
    refine c_I (inv_SN (mi := mi_X8_tallyOrder) (rest := [.int (c2 * 5)]) (X11_cell_ok G aX_60p c2 M) rfl (by decide) dX8_tallyOrder_65 lkm_X8_54 cal_X11_cell rfl (Nat.le_of_ble_eq_true rfl) rfl) ?_
    refine r_iadd dX8_tallyOrder_68 ?_
    refine r_letI (fun y4 => ?_)
    refine r_istore_n (lv' := [some (.ref (G.2.2.2 (53))), none, some (.int c2), some (.int y4)]) dX8_tallyOrder_69 (Nat.le_of_ble_eq_true rfl) rfl rfl ?_
    refine r_aload_n dX8_tallyOrder_70 rfl ?_
    refine r_getf (v := .ref (G.2.2.2 (62))) dX8_tallyOrder_71 fX_53_11 kX8 (by decide) lkf_X8_36 rfl ?_
    refine r_iload_n dX8_tallyOrder_74 rfl ?_
    refine r_aload_n dX8_tallyOrder_75 rfl ?_
    refine r_getf (v := .ref (G.2.2.2 (62))) dX8_tallyOrder_76 fX_53_11 kX8 (by decide) lkf_X8_36 rfl ?_
    refine r_iload_n dX8_tallyOrder_79 rfl ?_
    refine c_I (inv_SN (mi := mi_X8_tallyOrder) (rest := [.int y4, .ref (G.2.2.2 (62))]) (X11_cell_ok G aX_62p y4 M) rfl (by decide) dX8_tallyOrder_80 lkm_X8_54 cal_X11_cell rfl (Nat.le_of_ble_eq_true rfl) rfl) ?_
    refine r_iconst (x := 1) dX8_tallyOrder_83 rfl ?_
    refine r_iadd dX8_tallyOrder_84 ?_
    refine c_V (inv_SN (mi := mi_X8_tallyOrder) (rest := []) (X11_put_ok G aX_62p y4 ((X11_cell 62 y4 M) + 1) M) rfl (by decide) dX8_tallyOrder_85 lkm_X8_47 cal_X11_put rfl (Nat.le_of_ble_eq_true rfl) rfl) (fun M5 => ?_)
    refine r_iinc (y := c2 + 1) (lv' := [some (.ref (G.2.2.2 (53))), none, some (.int (c2 + 1)), some (.int y4)]) dX8_tallyOrder_88 rfl rfl (Nat.le_of_ble_eq_true rfl) rfl rfl ?_
    refine r_goto (tgt := 46) dX8_tallyOrder_91 rfl ?_
    exact r_lk (ih (c2 + 1) M5) (And.intro rfl (And.intro rfl True.intro))
set_option maxRecDepth 100000 in
set_option maxHeartbeats 4000000 in
theorem X8_tallyOrder_L1_ok (G : Gh) (x1 : Int32) : ∀ (n : Nat) (c2 : Int32) (M : Mem), Wr G mi_X8_tallyOrder (dO dV) 2 [some (.ref (G.2.2.2 (53))), some (.int x1), some (.int c2), none] [] M (X8_tallyOrder_L1 x1 n c2 M) := by
  intro n
  induction n with
  | zero => intro c2 M; exact r_none rfl
  | succ n ih =>
    intro c2 M
    rw [X8_tallyOrder_L1]
    refine r_iload_n dX8_tallyOrder_2 rfl ?_
    refine r_aload_n dX8_tallyOrder_3 rfl ?_
    refine r_getf (v := .int (M.1 53 7)) dX8_tallyOrder_4 fX_53_7 kX8 (by decide) lkf_X8_43 rfl ?_
    refine r_icmp_ge (tgt := 34) dX8_tallyOrder_7 rfl (fun h1 => ?_) (fun h1 => ?_)
    · refine r_aload_n dX8_tallyOrder_34 rfl ?_
      refine r_dup dX8_tallyOrder_35 rfl ?_
      refine r_getf (v := .int (M.1 53 12)) dX8_tallyOrder_36 fX_53_12 kX8 (by decide) lkf_X8_59 rfl ?_
      refine r_iconst (x := 1) dX8_tallyOrder_39 rfl ?_
      refine r_iadd dX8_tallyOrder_40 ?_
      refine r_putI dX8_tallyOrder_41 fX_53_12 kX8 (by decide) rfl rfl lkf_X8_59 (fun _ => rfl) rfl rfl (fun M2 => ?_)
      refine r_iconst (x := 0) dX8_tallyOrder_44 rfl ?_
      refine r_istore_n (lv' := [some (.ref (G.2.2.2 (53))), some (.int x1), some (.int 0), none]) dX8_tallyOrder_45 (Nat.le_of_ble_eq_true rfl) rfl rfl ?_
      refine r_jB1 (j := 94) (lvj := fun M6 => [none, none, none, none]) (stj := fun M6 => []) (Mj := fun M6 => M6) (fun M6 => ?_) (fun hj94 => ?_)
      · exact r_vret dX8_tallyOrder_94 rfl rfl
      exact r_lk (X8_tallyOrder_L2_ok G rfl hj94 zFU 0 M2) (And.intro rfl (And.intro rfl True.intro))
    refine r_aload_n dX8_tallyOrder_10 rfl ?_
    refine r_iload_n dX8_tallyOrder_11 rfl ?_
    refine r_iload_n dX8_tallyOrder_12 rfl ?_
    refine c_Z (inv_V (mi := mi_X8_tallyOrder) (b := 53) (rest := []) (X8_isKnown_ok G c2 x1 M) rfl (by decide) dX8_tallyOrder_13 lkm_X8_76 cal_X8_isKnown cX_53 rfl rfl (Nat.le_of_ble_eq_true rfl) rfl) ?_
    refine r_cL (jX := 28) (jY := 27) (lvX := [some (.ref (G.2.2.2 (53))), some (.int x1), some (.int c2), none]) (lvY := [none, none, none, none]) (stX := []) (M1 := M) (fun h10 => ?_) (fun h10 => ?_) (fun hX28 hY27 => ?_)
    · refine r_eq (if_pos rfl) ?_
      refine r_iinc (y := c2 + 1) (lv' := [some (.ref (G.2.2.2 (53))), some (.int x1), some (.int (c2 + 1)), none]) dX8_tallyOrder_28 rfl rfl (Nat.le_of_ble_eq_true rfl) rfl rfl ?_
      refine r_goto (tgt := 2) dX8_tallyOrder_31 rfl ?_
      exact r_lk (ih (c2 + 1) M) (And.intro rfl (And.intro rfl (And.intro rfl True.intro)))
    · refine r_eq (if_neg (by decide)) ?_
      exact r_vret dX8_tallyOrder_27 rfl rfl
    refine r_ifz_eq (tgt := 28) dX8_tallyOrder_16 rfl (fun h7 => ?_) (fun h7 => ?_)
    · refine r_aload_n dX8_tallyOrder_19 rfl ?_
      refine r_iload_n dX8_tallyOrder_20 rfl ?_
      refine c_Z (inv_V (mi := mi_X8_tallyOrder) (b := 53) (rest := []) (X8_agrees_ok G c2 M) rfl (by decide) dX8_tallyOrder_21 lkm_X8_80 cal_X8_agrees cX_53 rfl rfl (Nat.le_of_ble_eq_true rfl) rfl) ?_
      refine r_ifz_ne (tgt := 28) dX8_tallyOrder_24 rfl (fun h8 => ?_) (fun h8 => ?_)
      · exact r_lk hX28 (And.intro rfl (And.intro rfl (And.intro rfl True.intro)))
      exact r_lk hY27 True.intro
    exact r_lk hX28 (And.intro rfl (And.intro rfl (And.intro rfl True.intro)))
set_option maxRecDepth 100000 in
set_option maxHeartbeats 4000000 in
theorem X8_tallyOrder_ok (G : Gh) (x1 : Int32) (M : Mem) : Mt G mi_X8_tallyOrder [.ref (G.2.2.2 (53)), .int x1] M ((dO dV) (X8_tallyOrder x1 M)) := by
  refine Mt_of (lv := [some (.ref (G.2.2.2 (53))), some (.int x1)]) (by decide) rfl (Nat.le_of_ble_eq_true rfl) rfl ?_
  refine r_le (lv' := [some (.ref (G.2.2.2 (53))), some (.int x1), none, none]) (And.intro rfl (And.intro rfl True.intro)) ?_
  unfold X8_tallyOrder
  refine r_iconst (x := 0) dX8_tallyOrder_0 rfl ?_
  refine r_istore_n (lv' := [some (.ref (G.2.2.2 (53))), some (.int x1), some (.int 0), none]) dX8_tallyOrder_1 (Nat.le_of_ble_eq_true rfl) rfl rfl ?_
  exact r_lk (X8_tallyOrder_L1_ok G x1 zFU 0 M) (And.intro rfl (And.intro rfl (And.intro rfl True.intro)))

theorem dX8_giveBooks_0 : decode cX8_giveBooks 0 = .ok (.iload_n 1, 1) := by decide +kernel
theorem dX8_giveBooks_1 : decode cX8_giveBooks 1 = .ok (.aload_n 0, 1) := by decide +kernel
theorem dX8_giveBooks_2 : decode cX8_giveBooks 2 = .ok (.getfield 39, 3) := by decide +kernel
theorem dX8_giveBooks_5 : decode cX8_giveBooks 5 = .ok (.invokevirtual 66, 3) := by decide +kernel
theorem dX8_giveBooks_8 : decode cX8_giveBooks 8 = .ok (.if_icmp .ge 8, 3) := by decide +kernel
theorem dX8_giveBooks_11 : decode cX8_giveBooks 11 = .ok (.iload_n 1, 1) := by decide +kernel
theorem dX8_giveBooks_12 : decode cX8_giveBooks 12 = .ok (.iconst 5, 1) := by decide +kernel
theorem dX8_giveBooks_13 : decode cX8_giveBooks 13 = .ok (.if_icmp .lt 9, 3) := by decide +kernel
theorem dX8_giveBooks_16 : decode cX8_giveBooks 16 = .ok (.aload_n 0, 1) := by decide +kernel
theorem dX8_giveBooks_17 : decode cX8_giveBooks 17 = .ok (.iload_n 2, 1) := by decide +kernel
theorem dX8_giveBooks_18 : decode cX8_giveBooks 18 = .ok (.invokevirtual 72, 3) := by decide +kernel
theorem dX8_giveBooks_21 : decode cX8_giveBooks 21 = .ok (.return_, 1) := by decide +kernel
theorem dX8_giveBooks_22 : decode cX8_giveBooks 22 = .ok (.iconst 0, 1) := by decide +kernel
theorem dX8_giveBooks_23 : decode cX8_giveBooks 23 = .ok (.istore_n 3, 1) := by decide +kernel
theorem dX8_giveBooks_24 : decode cX8_giveBooks 24 = .ok (.iload_n 3, 1) := by decide +kernel
theorem dX8_giveBooks_25 : decode cX8_giveBooks 25 = .ok (.aload_n 0, 1) := by decide +kernel
theorem dX8_giveBooks_26 : decode cX8_giveBooks 26 = .ok (.getfield 39, 3) := by decide +kernel
theorem dX8_giveBooks_29 : decode cX8_giveBooks 29 = .ok (.invokevirtual 66, 3) := by decide +kernel
theorem dX8_giveBooks_32 : decode cX8_giveBooks 32 = .ok (.if_icmp .ge 55, 3) := by decide +kernel
theorem dX8_giveBooks_35 : decode cX8_giveBooks 35 = .ok (.aload_n 0, 1) := by decide +kernel
theorem dX8_giveBooks_36 : decode cX8_giveBooks 36 = .ok (.getfield 33, 3) := by decide +kernel
theorem dX8_giveBooks_39 : decode cX8_giveBooks 39 = .ok (.iload_n 3, 1) := by decide +kernel
theorem dX8_giveBooks_40 : decode cX8_giveBooks 40 = .ok (.invokestatic 54, 3) := by decide +kernel
theorem dX8_giveBooks_43 : decode cX8_giveBooks 43 = .ok (.ifCond .ne 38, 3) := by decide +kernel
theorem dX8_giveBooks_46 : decode cX8_giveBooks 46 = .ok (.aload_n 0, 1) := by decide +kernel
theorem dX8_giveBooks_47 : decode cX8_giveBooks 47 = .ok (.getfield 33, 3) := by decide +kernel
theorem dX8_giveBooks_50 : decode cX8_giveBooks 50 = .ok (.iload_n 3, 1) := by decide +kernel
theorem dX8_giveBooks_51 : decode cX8_giveBooks 51 = .ok (.iconst 1, 1) := by decide +kernel
theorem dX8_giveBooks_52 : decode cX8_giveBooks 52 = .ok (.invokestatic 47, 3) := by decide +kernel
theorem dX8_giveBooks_55 : decode cX8_giveBooks 55 = .ok (.aload_n 0, 1) := by decide +kernel
theorem dX8_giveBooks_56 : decode cX8_giveBooks 56 = .ok (.getfield 30, 3) := by decide +kernel
theorem dX8_giveBooks_59 : decode cX8_giveBooks 59 = .ok (.iload_n 1, 1) := by decide +kernel
theorem dX8_giveBooks_60 : decode cX8_giveBooks 60 = .ok (.iload_n 3, 1) := by decide +kernel
theorem dX8_giveBooks_61 : decode cX8_giveBooks 61 = .ok (.invokestatic 47, 3) := by decide +kernel
theorem dX8_giveBooks_64 : decode cX8_giveBooks 64 = .ok (.aload_n 0, 1) := by decide +kernel
theorem dX8_giveBooks_65 : decode cX8_giveBooks 65 = .ok (.iload_n 1, 1) := by decide +kernel
theorem dX8_giveBooks_66 : decode cX8_giveBooks 66 = .ok (.iconst 1, 1) := by decide +kernel
theorem dX8_giveBooks_67 : decode cX8_giveBooks 67 = .ok (.iadd, 1) := by decide +kernel
theorem dX8_giveBooks_68 : decode cX8_giveBooks 68 = .ok (.iload_n 2, 1) := by decide +kernel
theorem dX8_giveBooks_69 : decode cX8_giveBooks 69 = .ok (.invokevirtual 62, 3) := by decide +kernel
theorem dX8_giveBooks_72 : decode cX8_giveBooks 72 = .ok (.aload_n 0, 1) := by decide +kernel
theorem dX8_giveBooks_73 : decode cX8_giveBooks 73 = .ok (.getfield 33, 3) := by decide +kernel
theorem dX8_giveBooks_76 : decode cX8_giveBooks 76 = .ok (.iload_n 3, 1) := by decide +kernel
theorem dX8_giveBooks_77 : decode cX8_giveBooks 77 = .ok (.iconst 0, 1) := by decide +kernel
theorem dX8_giveBooks_78 : decode cX8_giveBooks 78 = .ok (.invokestatic 47, 3) := by decide +kernel
theorem dX8_giveBooks_81 : decode cX8_giveBooks 81 = .ok (.iinc 3 1, 3) := by decide +kernel
theorem dX8_giveBooks_84 : decode cX8_giveBooks 84 = .ok (.goto (-60), 3) := by decide +kernel
theorem dX8_giveBooks_87 : decode cX8_giveBooks 87 = .ok (.return_, 1) := by decide +kernel
abbrev mi_X8_giveBooks (kk : Nat) : MI := (zTX, RX8, yX8_giveBooks, cX8_giveBooks, 4, none, 40 + 6 * kk + 1)
theorem calz_X8_giveBooks : zCalV (mi_X8_giveBooks 0) 2 := ⟨⟨zTB_i6 26 (by decide +kernel), zTB_i6 25 (by decide +kernel), zTB_i0 40 (by decide +kernel), zTB_i1 12 (by decide +kernel)⟩, ⟨by decide, by decide, by decide +kernel⟩, by decide⟩
theorem cal_X8_giveBooks {kk : Nat} : zCalV (mi_X8_giveBooks kk) 2 := calz_X8_giveBooks
noncomputable def X8_giveBooks_L1 (fG : Int32 → Int32 → Mem → Option Mem) (x1 : Int32) (x2 : Int32) : Nat → Int32 → Mem → Option (Mem)
  | 0, _, _ => none
  | n + 1, c3, M =>
    if (X3_readers 23 M) ≤ c3 then
      some M
    else
    b1_ (α := Mem) (
      if (X11_cell 61 c3 M) = 0 then
        lt_ (X11_put 61 c3 1 M) fun M8 =>
        lt_ (X11_put 60 x1 c3 M8) fun M9 =>
        bo_ (fG (x1 + 1) x2 M9) fun M10 =>
        lt_ (X11_put 61 c3 0 M10) fun M11 =>
        some M11
      else
      some M) fun M12 =>
    X8_giveBooks_L1 fG x1 x2 n (c3 + 1) M12
noncomputable def X8_giveBooks (fG : Int32 → Int32 → Mem → Option Mem) (x1 : Int32) (x2 : Int32) (M : Mem) : Option (Mem) :=
  l1_ (α := Bool) (
    if (X3_readers 23 M) ≤ x1 then
      true
    else
    if x1 < 5 then
      false
    else
    true) fun t3 =>
  if t3 = true then
    bo_ (X8_tallyOrder x2 M) fun M5 =>
    some M5
  else
  b1_ (α := Mem) (X8_giveBooks_L1 fG x1 x2 zFU 0 M) fun M13 =>
  some M13
set_option maxRecDepth 100000 in
set_option maxHeartbeats 4000000 in
theorem X8_giveBooks_L1_ok (G : Gh) {kk : Nat} {fG : Int32 → Int32 → Mem → Option Mem} (hfG : ∀ (x1 x2 : Int32) (M : Mem), Mt G (mi_X8_giveBooks kk) [.ref (G.2.2.2 (53)), .int x1, .int x2] M (dO dV (fG x1 x2 M))) (x1 : Int32) (x2 : Int32) {dn : Option (Mem) → Option (Option Value × Mem)} (hs : dn none = none) (hx : ∀ (M13 : Mem), Wr G (mi_X8_giveBooks (kk + 1)) dn 87 [none, none, none, none] [] M13 (some M13)) : ∀ (n : Nat) (c3 : Int32) (M : Mem), Wr G (mi_X8_giveBooks (kk + 1)) dn 24 [some (.ref (G.2.2.2 (53))), some (.int x1), some (.int x2), some (.int c3)] [] M (X8_giveBooks_L1 fG x1 x2 n c3 M) := by
  intro n
  induction n with
  | zero => intro c3 M; exact r_none (by exact hs)
  | succ n ih =>
    intro c3 M
    rw [X8_giveBooks_L1]
    refine r_iload_n dX8_giveBooks_24 rfl ?_
    refine r_aload_n dX8_giveBooks_25 rfl ?_
    refine r_getf (v := .ref (G.2.2.2 (23))) dX8_giveBooks_26 fX_53_0 kX8 (by decide) lkf_X8_39 rfl ?_
    refine c_I (inv_V (mi := (mi_X8_giveBooks (kk + 1))) (b := 23) (rest := [.int c3]) (X3_readers_ok_23 G M) rfl (by show 8 + 1 ≤ (40 + 6 * (kk + 1) + 1); omega) dX8_giveBooks_29 lkm_X8_66 cal_X3_readers cX_23 rfl rfl (Nat.le_of_ble_eq_true rfl) rfl) ?_
    refine r_icmp_ge (tgt := 87) dX8_giveBooks_32 rfl (fun h6 => ?_) (fun h6 => ?_)
    · exact r_lk (hx M) True.intro
    refine r_aload_n dX8_giveBooks_35 rfl ?_
    refine r_getf (v := .ref (G.2.2.2 (61))) dX8_giveBooks_36 fX_53_10 kX8 (by decide) lkf_X8_33 rfl ?_
    refine r_iload_n dX8_giveBooks_39 rfl ?_
    refine c_I (inv_SN (mi := (mi_X8_giveBooks (kk + 1))) (rest := []) (X11_cell_ok G aX_61p c3 M) rfl (by show 2 + 1 ≤ (40 + 6 * (kk + 1) + 1); omega) dX8_giveBooks_40 lkm_X8_54 cal_X11_cell rfl (Nat.le_of_ble_eq_true rfl) rfl) ?_
    refine r_jB1 (j := 81) (lvj := fun M12 => [some (.ref (G.2.2.2 (53))), some (.int x1), some (.int x2), some (.int c3)]) (stj := fun M12 => []) (Mj := fun M12 => M12) (fun M12 => ?_) (fun hj81 => ?_)
    · refine r_iinc (y := c3 + 1) (lv' := [some (.ref (G.2.2.2 (53))), some (.int x1), some (.int x2), some (.int (c3 + 1))]) dX8_giveBooks_81 rfl rfl (Nat.le_of_ble_eq_true rfl) rfl rfl ?_
      refine r_goto (tgt := 24) dX8_giveBooks_84 rfl ?_
      exact r_lk (ih (c3 + 1) M12) (And.intro rfl (And.intro rfl (And.intro rfl (And.intro rfl True.intro))))
    refine r_if_ne (tgt := 81) dX8_giveBooks_43 rfl (fun h7 => ?_) (fun h7 => ?_)
    · refine r_aload_n dX8_giveBooks_46 rfl ?_
      refine r_getf (v := .ref (G.2.2.2 (61))) dX8_giveBooks_47 fX_53_10 kX8 (by decide) lkf_X8_33 rfl ?_
      refine r_iload_n dX8_giveBooks_50 rfl ?_
      refine r_iconst (x := 1) dX8_giveBooks_51 rfl ?_
      refine c_V (inv_SN (mi := (mi_X8_giveBooks (kk + 1))) (rest := []) (X11_put_ok G aX_61p c3 1 M) rfl (by show 2 + 1 ≤ (40 + 6 * (kk + 1) + 1); omega) dX8_giveBooks_52 lkm_X8_47 cal_X11_put rfl (Nat.le_of_ble_eq_true rfl) rfl) (fun M8 => ?_)
      refine r_aload_n dX8_giveBooks_55 rfl ?_
      refine r_getf (v := .ref (G.2.2.2 (60))) dX8_giveBooks_56 fX_53_9 kX8 (by decide) lkf_X8_30 rfl ?_
      refine r_iload_n dX8_giveBooks_59 rfl ?_
      refine r_iload_n dX8_giveBooks_60 rfl ?_
      refine c_V (inv_SN (mi := (mi_X8_giveBooks (kk + 1))) (rest := []) (X11_put_ok G aX_60p x1 c3 M8) rfl (by show 2 + 1 ≤ (40 + 6 * (kk + 1) + 1); omega) dX8_giveBooks_61 lkm_X8_47 cal_X11_put rfl (Nat.le_of_ble_eq_true rfl) rfl) (fun M9 => ?_)
      refine r_aload_n dX8_giveBooks_64 rfl ?_
      refine r_iload_n dX8_giveBooks_65 rfl ?_
      refine r_iconst (x := 1) dX8_giveBooks_66 rfl ?_
      refine r_iadd dX8_giveBooks_67 ?_
      refine r_iload_n dX8_giveBooks_68 rfl ?_
      refine c_OV (by exact hs) (inv_V (mi := (mi_X8_giveBooks (kk + 1))) (b := 53) (rest := []) (hfG (x1 + 1) x2 M9) rfl (by show (40 + 6 * kk + 1) + 1 ≤ (40 + 6 * (kk + 1) + 1); omega) dX8_giveBooks_69 lkm_X8_62 cal_X8_giveBooks cX_53 rfl rfl (Nat.le_of_ble_eq_true rfl) rfl) (fun M10 => ?_)
      refine r_aload_n dX8_giveBooks_72 rfl ?_
      refine r_getf (v := .ref (G.2.2.2 (61))) dX8_giveBooks_73 fX_53_10 kX8 (by decide) lkf_X8_33 rfl ?_
      refine r_iload_n dX8_giveBooks_76 rfl ?_
      refine r_iconst (x := 0) dX8_giveBooks_77 rfl ?_
      refine c_V (inv_SN (mi := (mi_X8_giveBooks (kk + 1))) (rest := []) (X11_put_ok G aX_61p c3 0 M10) rfl (by show 2 + 1 ≤ (40 + 6 * (kk + 1) + 1); omega) dX8_giveBooks_78 lkm_X8_47 cal_X11_put rfl (Nat.le_of_ble_eq_true rfl) rfl) (fun M11 => ?_)
      exact r_lk (hj81 M11) (And.intro rfl (And.intro rfl (And.intro rfl (And.intro rfl True.intro))))
    exact r_lk (hj81 M) (And.intro rfl (And.intro rfl (And.intro rfl (And.intro rfl True.intro))))
set_option maxRecDepth 100000 in
set_option maxHeartbeats 4000000 in
theorem X8_giveBooks_ok (G : Gh) {kk : Nat} {fG : Int32 → Int32 → Mem → Option Mem} (hfG : ∀ (x1 x2 : Int32) (M : Mem), Mt G (mi_X8_giveBooks kk) [.ref (G.2.2.2 (53)), .int x1, .int x2] M (dO dV (fG x1 x2 M))) (x1 : Int32) (x2 : Int32) (M : Mem) : Mt G (mi_X8_giveBooks (kk + 1)) [.ref (G.2.2.2 (53)), .int x1, .int x2] M ((dO dV) (X8_giveBooks fG x1 x2 M)) := by
  refine Mt_of (lv := [some (.ref (G.2.2.2 (53))), some (.int x1), some (.int x2)]) (show plainName RX8 = true by decide) rfl (Nat.le_of_ble_eq_true rfl) rfl ?_
  refine r_le (lv' := [some (.ref (G.2.2.2 (53))), some (.int x1), some (.int x2), none]) (And.intro rfl (And.intro rfl (And.intro rfl True.intro))) ?_
  unfold X8_giveBooks
  refine r_iload_n dX8_giveBooks_0 rfl ?_
  refine r_aload_n dX8_giveBooks_1 rfl ?_
  refine r_getf (v := .ref (G.2.2.2 (23))) dX8_giveBooks_2 fX_53_0 kX8 (by decide) lkf_X8_39 rfl ?_
  refine c_I (inv_V (mi := (mi_X8_giveBooks (kk + 1))) (b := 23) (rest := [.int x1]) (X3_readers_ok_23 G M) rfl (by show 8 + 1 ≤ (40 + 6 * (kk + 1) + 1); omega) dX8_giveBooks_5 lkm_X8_66 cal_X3_readers cX_23 rfl rfl (Nat.le_of_ble_eq_true rfl) rfl) ?_
  refine r_cL (jX := 16) (jY := 22) (lvX := [some (.ref (G.2.2.2 (53))), none, some (.int x2), none]) (lvY := [some (.ref (G.2.2.2 (53))), some (.int x1), some (.int x2), none]) (stX := []) (M1 := M) (fun h4 => ?_) (fun h4 => ?_) (fun hX16 hY22 => ?_)
  · refine r_eq (if_pos rfl) ?_
    refine r_aload_n dX8_giveBooks_16 rfl ?_
    refine r_iload_n dX8_giveBooks_17 rfl ?_
    refine c_OV rfl (inv_V (mi := (mi_X8_giveBooks (kk + 1))) (b := 53) (rest := []) (X8_tallyOrder_ok G x2 M) rfl (by show 9 + 1 ≤ (40 + 6 * (kk + 1) + 1); omega) dX8_giveBooks_18 lkm_X8_72 cal_X8_tallyOrder cX_53 rfl rfl (Nat.le_of_ble_eq_true rfl) rfl) (fun M5 => ?_)
    exact r_vret dX8_giveBooks_21 rfl rfl
  · refine r_eq (if_neg (by decide)) ?_
    refine r_iconst (x := 0) dX8_giveBooks_22 rfl ?_
    refine r_istore_n (lv' := [some (.ref (G.2.2.2 (53))), some (.int x1), some (.int x2), some (.int 0)]) dX8_giveBooks_23 (Nat.le_of_ble_eq_true rfl) rfl rfl ?_
    refine r_jB1 (j := 87) (lvj := fun M13 => [none, none, none, none]) (stj := fun M13 => []) (Mj := fun M13 => M13) (fun M13 => ?_) (fun hj87 => ?_)
    · exact r_vret dX8_giveBooks_87 rfl rfl
    exact r_lk (X8_giveBooks_L1_ok G hfG x1 x2 rfl hj87 zFU 0 M) (And.intro rfl (And.intro rfl (And.intro rfl (And.intro rfl True.intro))))
  refine r_icmp_ge (tgt := 16) dX8_giveBooks_8 rfl (fun h1 => ?_) (fun h1 => ?_)
  · exact r_lk hX16 (And.intro rfl (And.intro rfl True.intro))
  refine r_iload_n dX8_giveBooks_11 rfl ?_
  refine r_iconst (x := 5) dX8_giveBooks_12 rfl ?_
  refine r_icmp_lt (tgt := 22) dX8_giveBooks_13 rfl (fun h2 => ?_) (fun h2 => ?_)
  · exact r_lk hY22 (And.intro rfl (And.intro rfl (And.intro rfl True.intro)))
  exact r_lk hX16 (And.intro rfl (And.intro rfl True.intro))
noncomputable def X8_gb : Nat → Int32 → Int32 → Mem → Option Mem
  | 0 => fun _ _ _ => none
  | n + 1 => fun a b M => X8_giveBooks (X8_gb n) a b M
theorem X8_gb_ok (G : Gh) : ∀ (n : Nat) (x1 x2 : Int32) (M : Mem), Mt G (mi_X8_giveBooks n) [.ref (G.2.2.2 (53)), .int x1, .int x2] M (dO dV (X8_gb n x1 x2 M)) := by
  intro n
  induction n with
  | zero => exact fun x1 x2 M => Mt_none (σ := Unit) rfl
  | succ n ih => exact fun x1 x2 M => X8_giveBooks_ok G ih x1 x2 M

theorem dX8_countOrders_0 : decode cX8_countOrders 0 = .ok (.aload_n 0, 1) := by decide +kernel
theorem dX8_countOrders_1 : decode cX8_countOrders 1 = .ok (.iconst 0, 1) := by decide +kernel
theorem dX8_countOrders_2 : decode cX8_countOrders 2 = .ok (.putfield 59, 3) := by decide +kernel
theorem dX8_countOrders_5 : decode cX8_countOrders 5 = .ok (.iconst 0, 1) := by decide +kernel
theorem dX8_countOrders_6 : decode cX8_countOrders 6 = .ok (.istore_n 2, 1) := by decide +kernel
theorem dX8_countOrders_7 : decode cX8_countOrders 7 = .ok (.iload_n 2, 1) := by decide +kernel
theorem dX8_countOrders_8 : decode cX8_countOrders 8 = .ok (.aload_n 0, 1) := by decide +kernel
theorem dX8_countOrders_9 : decode cX8_countOrders 9 = .ok (.getfield 36, 3) := by decide +kernel
theorem dX8_countOrders_12 : decode cX8_countOrders 12 = .ok (.arraylength, 1) := by decide +kernel
theorem dX8_countOrders_13 : decode cX8_countOrders 13 = .ok (.if_icmp .ge 16, 3) := by decide +kernel
theorem dX8_countOrders_16 : decode cX8_countOrders 16 = .ok (.aload_n 0, 1) := by decide +kernel
theorem dX8_countOrders_17 : decode cX8_countOrders 17 = .ok (.getfield 36, 3) := by decide +kernel
theorem dX8_countOrders_20 : decode cX8_countOrders 20 = .ok (.iload_n 2, 1) := by decide +kernel
theorem dX8_countOrders_21 : decode cX8_countOrders 21 = .ok (.iconst 0, 1) := by decide +kernel
theorem dX8_countOrders_22 : decode cX8_countOrders 22 = .ok (.iastore, 1) := by decide +kernel
theorem dX8_countOrders_23 : decode cX8_countOrders 23 = .ok (.iinc 2 1, 3) := by decide +kernel
theorem dX8_countOrders_26 : decode cX8_countOrders 26 = .ok (.goto (-19), 3) := by decide +kernel
theorem dX8_countOrders_29 : decode cX8_countOrders 29 = .ok (.iconst 0, 1) := by decide +kernel
theorem dX8_countOrders_30 : decode cX8_countOrders 30 = .ok (.istore_n 2, 1) := by decide +kernel
theorem dX8_countOrders_31 : decode cX8_countOrders 31 = .ok (.iload_n 2, 1) := by decide +kernel
theorem dX8_countOrders_32 : decode cX8_countOrders 32 = .ok (.aload_n 0, 1) := by decide +kernel
theorem dX8_countOrders_33 : decode cX8_countOrders 33 = .ok (.getfield 33, 3) := by decide +kernel
theorem dX8_countOrders_36 : decode cX8_countOrders 36 = .ok (.arraylength, 1) := by decide +kernel
theorem dX8_countOrders_37 : decode cX8_countOrders 37 = .ok (.if_icmp .ge 16, 3) := by decide +kernel
theorem dX8_countOrders_40 : decode cX8_countOrders 40 = .ok (.aload_n 0, 1) := by decide +kernel
theorem dX8_countOrders_41 : decode cX8_countOrders 41 = .ok (.getfield 33, 3) := by decide +kernel
theorem dX8_countOrders_44 : decode cX8_countOrders 44 = .ok (.iload_n 2, 1) := by decide +kernel
theorem dX8_countOrders_45 : decode cX8_countOrders 45 = .ok (.iconst 0, 1) := by decide +kernel
theorem dX8_countOrders_46 : decode cX8_countOrders 46 = .ok (.iastore, 1) := by decide +kernel
theorem dX8_countOrders_47 : decode cX8_countOrders 47 = .ok (.iinc 2 1, 3) := by decide +kernel
theorem dX8_countOrders_50 : decode cX8_countOrders 50 = .ok (.goto (-19), 3) := by decide +kernel
theorem dX8_countOrders_53 : decode cX8_countOrders 53 = .ok (.aload_n 0, 1) := by decide +kernel
theorem dX8_countOrders_54 : decode cX8_countOrders 54 = .ok (.iconst 0, 1) := by decide +kernel
theorem dX8_countOrders_55 : decode cX8_countOrders 55 = .ok (.iload_n 1, 1) := by decide +kernel
theorem dX8_countOrders_56 : decode cX8_countOrders 56 = .ok (.invokevirtual 62, 3) := by decide +kernel
theorem dX8_countOrders_59 : decode cX8_countOrders 59 = .ok (.aload_n 0, 1) := by decide +kernel
theorem dX8_countOrders_60 : decode cX8_countOrders 60 = .ok (.getfield 59, 3) := by decide +kernel
theorem dX8_countOrders_63 : decode cX8_countOrders 63 = .ok (.ireturn, 1) := by decide +kernel
abbrev mi_X8_countOrders : MI := (zTX, RX8, yX8_countOrders, cX8_countOrders, 3, (some .int), 90)
theorem cal_X8_countOrders : zCalV mi_X8_countOrders 1 := ⟨⟨zTB_i6 22 (by decide +kernel), zTB_i6 20 (by decide +kernel), zTB_i6 21 (by decide +kernel), zTB_i1 12 (by decide +kernel)⟩, ⟨by decide, by decide, by decide +kernel⟩, by decide⟩
noncomputable def X8_countOrders_L2 : Nat → Int32 → Mem → Option (Mem)
  | 0, _, _ => none
  | n + 1, c2, M =>
    if (5) ≤ c2 then
      some M
    else
    gd_ (inb c2 (5) = true) (
    lt_ (uI M 61 c2.toNatClampNeg 0) fun M8 =>
    X8_countOrders_L2 n (c2 + 1) M8)
noncomputable def X8_countOrders_L1 : Nat → Int32 → Mem → Option (Mem)
  | 0, _, _ => none
  | n + 1, c2, M =>
    if (25) ≤ c2 then
      some M
    else
    gd_ (inb c2 (25) = true) (
    lt_ (uI M 62 c2.toNatClampNeg 0) fun M4 =>
    X8_countOrders_L1 n (c2 + 1) M4)
noncomputable def X8_countOrders (x1 : Int32) (M : Mem) : Option (Int32 × Mem) :=
  lt_ (uI M 53 12 0) fun M1 =>
  b1_ (α := Mem) (X8_countOrders_L1 zFU 0 M1) fun M5 =>
  b1_ (α := Mem) (X8_countOrders_L2 zFU 0 M5) fun M9 =>
  bo_ (X8_gb 8 0 x1 M9) fun M10 =>
  some (M10.1 53 12, M10)
set_option maxRecDepth 100000 in
set_option maxHeartbeats 4000000 in
theorem X8_countOrders_L2_ok (G : Gh) (x1 : Int32) {dn : Option (Mem) → Option (Option Value × Mem)} (hs : dn none = none) (hx : ∀ (M9 : Mem), Wr G mi_X8_countOrders dn 53 [some (.ref (G.2.2.2 (53))), some (.int x1), none] [] M9 (some M9)) : ∀ (n : Nat) (c2 : Int32) (M : Mem), Wr G mi_X8_countOrders dn 31 [some (.ref (G.2.2.2 (53))), some (.int x1), some (.int c2)] [] M (X8_countOrders_L2 n c2 M) := by
  intro n
  induction n with
  | zero => intro c2 M; exact r_none (by exact hs)
  | succ n ih =>
    intro c2 M
    rw [X8_countOrders_L2]
    refine r_iload_n dX8_countOrders_31 rfl ?_
    refine r_aload_n dX8_countOrders_32 rfl ?_
    refine r_getf (v := .ref (G.2.2.2 (61))) dX8_countOrders_33 fX_53_10 kX8 (by decide) lkf_X8_33 rfl ?_
    refine r_alen (v := 5) dX8_countOrders_36 aX_61 (by decide) rfl ?_
    refine r_icmp_ge (tgt := 53) dX8_countOrders_37 rfl (fun h6 => ?_) (fun h6 => ?_)
    · exact r_lk (hx M) (And.intro rfl (And.intro rfl True.intro))
    refine r_aload_n dX8_countOrders_40 rfl ?_
    refine r_getf (v := .ref (G.2.2.2 (61))) dX8_countOrders_41 fX_53_10 kX8 (by decide) lkf_X8_33 rfl ?_
    refine r_iload_n dX8_countOrders_44 rfl ?_
    refine r_iconst (x := 0) dX8_countOrders_45 rfl ?_
    refine r_gd (by exact hs) (fun g7 => ?_)
    refine r_iast dX8_countOrders_46 aX_61 (inb_in g7) rfl (fun M8 => ?_)
    refine r_iinc (y := c2 + 1) (lv' := [some (.ref (G.2.2.2 (53))), some (.int x1), some (.int (c2 + 1))]) dX8_countOrders_47 rfl rfl (Nat.le_of_ble_eq_true rfl) rfl rfl ?_
    refine r_goto (tgt := 31) dX8_countOrders_50 rfl ?_
    exact r_lk (ih (c2 + 1) M8) (And.intro rfl (And.intro rfl (And.intro rfl True.intro)))
set_option maxRecDepth 100000 in
set_option maxHeartbeats 4000000 in
theorem X8_countOrders_L1_ok (G : Gh) (x1 : Int32) {dn : Option (Mem) → Option (Option Value × Mem)} (hs : dn none = none) (hx : ∀ (M5 : Mem), Wr G mi_X8_countOrders dn 29 [some (.ref (G.2.2.2 (53))), some (.int x1), none] [] M5 (some M5)) : ∀ (n : Nat) (c2 : Int32) (M : Mem), Wr G mi_X8_countOrders dn 7 [some (.ref (G.2.2.2 (53))), some (.int x1), some (.int c2)] [] M (X8_countOrders_L1 n c2 M) := by
  intro n
  induction n with
  | zero => intro c2 M; exact r_none (by exact hs)
  | succ n ih =>
    intro c2 M
    rw [X8_countOrders_L1]
    refine r_iload_n dX8_countOrders_7 rfl ?_
    refine r_aload_n dX8_countOrders_8 rfl ?_
    refine r_getf (v := .ref (G.2.2.2 (62))) dX8_countOrders_9 fX_53_11 kX8 (by decide) lkf_X8_36 rfl ?_
    refine r_alen (v := 25) dX8_countOrders_12 aX_62 (by decide) rfl ?_
    refine r_icmp_ge (tgt := 29) dX8_countOrders_13 rfl (fun h2 => ?_) (fun h2 => ?_)
    · exact r_lk (hx M) (And.intro rfl (And.intro rfl True.intro))
    refine r_aload_n dX8_countOrders_16 rfl ?_
    refine r_getf (v := .ref (G.2.2.2 (62))) dX8_countOrders_17 fX_53_11 kX8 (by decide) lkf_X8_36 rfl ?_
    refine r_iload_n dX8_countOrders_20 rfl ?_
    refine r_iconst (x := 0) dX8_countOrders_21 rfl ?_
    refine r_gd (by exact hs) (fun g3 => ?_)
    refine r_iast dX8_countOrders_22 aX_62 (inb_in g3) rfl (fun M4 => ?_)
    refine r_iinc (y := c2 + 1) (lv' := [some (.ref (G.2.2.2 (53))), some (.int x1), some (.int (c2 + 1))]) dX8_countOrders_23 rfl rfl (Nat.le_of_ble_eq_true rfl) rfl rfl ?_
    refine r_goto (tgt := 7) dX8_countOrders_26 rfl ?_
    exact r_lk (ih (c2 + 1) M4) (And.intro rfl (And.intro rfl (And.intro rfl True.intro)))
set_option maxRecDepth 100000 in
set_option maxHeartbeats 4000000 in
theorem X8_countOrders_ok (G : Gh) (x1 : Int32) (M : Mem) : Mt G mi_X8_countOrders [.ref (G.2.2.2 (53)), .int x1] M ((dO dIM) (X8_countOrders x1 M)) := by
  refine Mt_of (lv := [some (.ref (G.2.2.2 (53))), some (.int x1)]) (by decide) rfl (Nat.le_of_ble_eq_true rfl) rfl ?_
  refine r_le (lv' := [some (.ref (G.2.2.2 (53))), some (.int x1), none]) (And.intro rfl (And.intro rfl True.intro)) ?_
  unfold X8_countOrders
  refine r_aload_n dX8_countOrders_0 rfl ?_
  refine r_iconst (x := 0) dX8_countOrders_1 rfl ?_
  refine r_putI dX8_countOrders_2 fX_53_12 kX8 (by decide) rfl rfl lkf_X8_59 (fun _ => rfl) rfl rfl (fun M1 => ?_)
  refine r_iconst (x := 0) dX8_countOrders_5 rfl ?_
  refine r_istore_n (lv' := [some (.ref (G.2.2.2 (53))), some (.int x1), some (.int 0)]) dX8_countOrders_6 (Nat.le_of_ble_eq_true rfl) rfl rfl ?_
  refine r_jB1 (j := 29) (lvj := fun M5 => [some (.ref (G.2.2.2 (53))), some (.int x1), none]) (stj := fun M5 => []) (Mj := fun M5 => M5) (fun M5 => ?_) (fun hj29 => ?_)
  · refine r_iconst (x := 0) dX8_countOrders_29 rfl ?_
    refine r_istore_n (lv' := [some (.ref (G.2.2.2 (53))), some (.int x1), some (.int 0)]) dX8_countOrders_30 (Nat.le_of_ble_eq_true rfl) rfl rfl ?_
    refine r_jB1 (j := 53) (lvj := fun M9 => [some (.ref (G.2.2.2 (53))), some (.int x1), none]) (stj := fun M9 => []) (Mj := fun M9 => M9) (fun M9 => ?_) (fun hj53 => ?_)
    · refine r_aload_n dX8_countOrders_53 rfl ?_
      refine r_iconst (x := 0) dX8_countOrders_54 rfl ?_
      refine r_iload_n dX8_countOrders_55 rfl ?_
      refine c_OV rfl (inv_V (mi := mi_X8_countOrders) (b := 53) (rest := []) (X8_gb_ok G 8 0 x1 M9) rfl (by decide) dX8_countOrders_56 lkm_X8_62 cal_X8_giveBooks cX_53 rfl rfl (Nat.le_of_ble_eq_true rfl) rfl) (fun M10 => ?_)
      refine r_aload_n dX8_countOrders_59 rfl ?_
      refine r_getf (v := .int (M10.1 53 12)) dX8_countOrders_60 fX_53_12 kX8 (by decide) lkf_X8_59 rfl ?_
      exact r_iret (ty := .int) dX8_countOrders_63 rfl rfl rfl
    exact r_lk (X8_countOrders_L2_ok G x1 rfl hj53 zFU 0 M5) (And.intro rfl (And.intro rfl (And.intro rfl True.intro)))
  exact r_lk (X8_countOrders_L1_ok G x1 rfl hj29 zFU 0 M1) (And.intro rfl (And.intro rfl (And.intro rfl True.intro)))

theorem dX11_orders_0 : decode cX11_orders 0 = .ok (.aload_n 0, 1) := by decide +kernel
theorem dX11_orders_1 : decode cX11_orders 1 = .ok (.getfield 69, 3) := by decide +kernel
theorem dX11_orders_4 : decode cX11_orders 4 = .ok (.iload_n 1, 1) := by decide +kernel
theorem dX11_orders_5 : decode cX11_orders 5 = .ok (.invokevirtual 283, 3) := by decide +kernel
theorem dX11_orders_8 : decode cX11_orders 8 = .ok (.ireturn, 1) := by decide +kernel
abbrev mi_X11_orders : MI := (zTX, RX11, yX11_orders, cX11_orders, 2, (some .int), 91)
theorem cal_X11_orders : zCalV mi_X11_orders 1 := ⟨⟨zTB_i6 18 (by decide +kernel), zTB_i6 16 (by decide +kernel), zTB_i6 17 (by decide +kernel), zTB_i1 1 (by decide +kernel)⟩, ⟨by decide, by decide, by decide +kernel⟩, by decide⟩
noncomputable def X11_orders (x1 : Int32) (M : Mem) : Option (Int32 × Mem) :=
  bp_ (X8_countOrders x1 M) fun v1 M2 =>
  some (v1, M2)
set_option maxRecDepth 100000 in
set_option maxHeartbeats 4000000 in
theorem X11_orders_ok (G : Gh) (x1 : Int32) (M : Mem) : Mt G mi_X11_orders [.ref (G.2.2.2 (0)), .int x1] M ((dO dIM) (X11_orders x1 M)) := by
  refine Mt_of (lv := [some (.ref (G.2.2.2 (0))), some (.int x1)]) (by decide) rfl (Nat.le_of_ble_eq_true rfl) rfl ?_
  unfold X11_orders
  refine r_aload_n dX11_orders_0 rfl ?_
  refine r_getf (v := .ref (G.2.2.2 (53))) dX11_orders_1 fX_0_7 kX11 (by decide) lkf_X11_69 rfl ?_
  refine r_iload_n dX11_orders_4 rfl ?_
  refine c_OIM rfl (inv_V (mi := mi_X11_orders) (b := 53) (rest := []) (X8_countOrders_ok G x1 M) rfl (by decide) dX11_orders_5 lkm_X11_283 cal_X8_countOrders cX_53 rfl rfl (Nat.le_of_ble_eq_true rfl) rfl) (fun v1 M2 => ?_)
  exact r_iret (ty := .int) dX11_orders_8 rfl rfl rfl

theorem dX8_sureBook_0 : decode cX8_sureBook 0 = .ok (.aload_n 0, 1) := by decide +kernel
theorem dX8_sureBook_1 : decode cX8_sureBook 1 = .ok (.iload_n 2, 1) := by decide +kernel
theorem dX8_sureBook_2 : decode cX8_sureBook 2 = .ok (.invokevirtual 91, 3) := by decide +kernel
theorem dX8_sureBook_5 : decode cX8_sureBook 5 = .ok (.ifCond .ne 5, 3) := by decide +kernel
theorem dX8_sureBook_8 : decode cX8_sureBook 8 = .ok (.iconst (-1), 1) := by decide +kernel
theorem dX8_sureBook_9 : decode cX8_sureBook 9 = .ok (.ireturn, 1) := by decide +kernel
theorem dX8_sureBook_10 : decode cX8_sureBook 10 = .ok (.iconst 0, 1) := by decide +kernel
theorem dX8_sureBook_11 : decode cX8_sureBook 11 = .ok (.istore_n 3, 1) := by decide +kernel
theorem dX8_sureBook_12 : decode cX8_sureBook 12 = .ok (.iload_n 3, 1) := by decide +kernel
theorem dX8_sureBook_13 : decode cX8_sureBook 13 = .ok (.aload_n 0, 1) := by decide +kernel
theorem dX8_sureBook_14 : decode cX8_sureBook 14 = .ok (.getfield 39, 3) := by decide +kernel
theorem dX8_sureBook_17 : decode cX8_sureBook 17 = .ok (.invokevirtual 66, 3) := by decide +kernel
theorem dX8_sureBook_20 : decode cX8_sureBook 20 = .ok (.if_icmp .ge 30, 3) := by decide +kernel
theorem dX8_sureBook_23 : decode cX8_sureBook 23 = .ok (.aload_n 0, 1) := by decide +kernel
theorem dX8_sureBook_24 : decode cX8_sureBook 24 = .ok (.getfield 36, 3) := by decide +kernel
theorem dX8_sureBook_27 : decode cX8_sureBook 27 = .ok (.iload_n 1, 1) := by decide +kernel
theorem dX8_sureBook_28 : decode cX8_sureBook 28 = .ok (.iconst 5, 1) := by decide +kernel
theorem dX8_sureBook_29 : decode cX8_sureBook 29 = .ok (.imul, 1) := by decide +kernel
theorem dX8_sureBook_30 : decode cX8_sureBook 30 = .ok (.iload_n 3, 1) := by decide +kernel
theorem dX8_sureBook_31 : decode cX8_sureBook 31 = .ok (.iadd, 1) := by decide +kernel
theorem dX8_sureBook_32 : decode cX8_sureBook 32 = .ok (.invokestatic 54, 3) := by decide +kernel
theorem dX8_sureBook_35 : decode cX8_sureBook 35 = .ok (.aload_n 0, 1) := by decide +kernel
theorem dX8_sureBook_36 : decode cX8_sureBook 36 = .ok (.getfield 59, 3) := by decide +kernel
theorem dX8_sureBook_39 : decode cX8_sureBook 39 = .ok (.if_icmp .ne 5, 3) := by decide +kernel
theorem dX8_sureBook_42 : decode cX8_sureBook 42 = .ok (.iload_n 3, 1) := by decide +kernel
theorem dX8_sureBook_43 : decode cX8_sureBook 43 = .ok (.ireturn, 1) := by decide +kernel
theorem dX8_sureBook_44 : decode cX8_sureBook 44 = .ok (.iinc 3 1, 3) := by decide +kernel
theorem dX8_sureBook_47 : decode cX8_sureBook 47 = .ok (.goto (-35), 3) := by decide +kernel
theorem dX8_sureBook_50 : decode cX8_sureBook 50 = .ok (.bipush (-2), 2) := by decide +kernel
theorem dX8_sureBook_52 : decode cX8_sureBook 52 = .ok (.ireturn, 1) := by decide +kernel
abbrev mi_X8_sureBook : MI := (zTX, RX8, yX8_sureBook, cX8_sureBook, 4, (some .int), 91)
theorem cal_X8_sureBook : zCalV mi_X8_sureBook 2 := ⟨⟨zTB_i6 51 (by decide +kernel), zTB_i6 49 (by decide +kernel), zTB_i6 50 (by decide +kernel), zTB_i1 12 (by decide +kernel)⟩, ⟨by decide, by decide, by decide +kernel⟩, by decide⟩
noncomputable def X8_sureBook_L1 (x1 : Int32) (M : Mem) : Nat → Int32 → Option (Int32 × Mem)
  | 0, _ => none
  | n + 1, c3 =>
    if (X3_readers 23 M) ≤ c3 then
      some ((-2), M)
    else
    if (X11_cell 62 ((x1 * 5) + c3) M) = (M.1 53 12) then
      some (c3, M)
    else
    X8_sureBook_L1 x1 M n (c3 + 1)
noncomputable def X8_sureBook (x1 : Int32) (x2 : Int32) (M : Mem) : Option (Int32 × Mem) :=
  bp_ (X8_countOrders x2 M) fun v1 M2 =>
  if v1 = 0 then
    some ((-1), M2)
  else
  X8_sureBook_L1 x1 M2 zFU 0
set_option maxRecDepth 100000 in
set_option maxHeartbeats 4000000 in
theorem X8_sureBook_L1_ok (G : Gh) (x1 : Int32) (M : Mem) : ∀ (n : Nat) (c3 : Int32), Wr G mi_X8_sureBook (dO dIM) 12 [some (.ref (G.2.2.2 (53))), some (.int x1), none, some (.int c3)] [] M (X8_sureBook_L1 x1 M n c3) := by
  intro n
  induction n with
  | zero => intro c3; exact r_none rfl
  | succ n ih =>
    intro c3
    rw [X8_sureBook_L1]
    refine r_iload_n dX8_sureBook_12 rfl ?_
    refine r_aload_n dX8_sureBook_13 rfl ?_
    refine r_getf (v := .ref (G.2.2.2 (23))) dX8_sureBook_14 fX_53_0 kX8 (by decide) lkf_X8_39 rfl ?_
    refine c_I (inv_V (mi := mi_X8_sureBook) (b := 23) (rest := [.int c3]) (X3_readers_ok_23 G M) rfl (by decide) dX8_sureBook_17 lkm_X8_66 cal_X3_readers cX_23 rfl rfl (Nat.le_of_ble_eq_true rfl) rfl) ?_
    refine r_icmp_ge (tgt := 50) dX8_sureBook_20 rfl (fun h4 => ?_) (fun h4 => ?_)
    · refine r_bipush (x := (-2)) dX8_sureBook_50 rfl ?_
      exact r_iret (ty := .int) dX8_sureBook_52 rfl rfl rfl
    refine r_aload_n dX8_sureBook_23 rfl ?_
    refine r_getf (v := .ref (G.2.2.2 (62))) dX8_sureBook_24 fX_53_11 kX8 (by decide) lkf_X8_36 rfl ?_
    refine r_iload_n dX8_sureBook_27 rfl ?_
    refine r_iconst (x := 5) dX8_sureBook_28 rfl ?_
    refine r_imul dX8_sureBook_29 ?_
    refine r_iload_n dX8_sureBook_30 rfl ?_
    refine r_iadd dX8_sureBook_31 ?_
    refine c_I (inv_SN (mi := mi_X8_sureBook) (rest := []) (X11_cell_ok G aX_62p ((x1 * 5) + c3) M) rfl (by decide) dX8_sureBook_32 lkm_X8_54 cal_X11_cell rfl (Nat.le_of_ble_eq_true rfl) rfl) ?_
    refine r_aload_n dX8_sureBook_35 rfl ?_
    refine r_getf (v := .int (M.1 53 12)) dX8_sureBook_36 fX_53_12 kX8 (by decide) lkf_X8_59 rfl ?_
    refine r_icmp_ne (tgt := 44) dX8_sureBook_39 rfl (fun h5 => ?_) (fun h5 => ?_)
    · refine r_iload_n dX8_sureBook_42 rfl ?_
      exact r_iret (ty := .int) dX8_sureBook_43 rfl rfl rfl
    refine r_iinc (y := c3 + 1) (lv' := [some (.ref (G.2.2.2 (53))), some (.int x1), none, some (.int (c3 + 1))]) dX8_sureBook_44 rfl rfl (Nat.le_of_ble_eq_true rfl) rfl rfl ?_
    refine r_goto (tgt := 12) dX8_sureBook_47 rfl ?_
    exact r_lk (ih (c3 + 1)) (And.intro rfl (And.intro rfl (And.intro rfl True.intro)))
set_option maxRecDepth 100000 in
set_option maxHeartbeats 4000000 in
theorem X8_sureBook_ok (G : Gh) (x1 : Int32) (x2 : Int32) (M : Mem) : Mt G mi_X8_sureBook [.ref (G.2.2.2 (53)), .int x1, .int x2] M ((dO dIM) (X8_sureBook x1 x2 M)) := by
  refine Mt_of (lv := [some (.ref (G.2.2.2 (53))), some (.int x1), some (.int x2)]) (by decide) rfl (Nat.le_of_ble_eq_true rfl) rfl ?_
  refine r_le (lv' := [some (.ref (G.2.2.2 (53))), some (.int x1), some (.int x2), none]) (And.intro rfl (And.intro rfl (And.intro rfl True.intro))) ?_
  unfold X8_sureBook
  refine r_aload_n dX8_sureBook_0 rfl ?_
  refine r_iload_n dX8_sureBook_1 rfl ?_
  refine c_OIM rfl (inv_V (mi := mi_X8_sureBook) (b := 53) (rest := []) (X8_countOrders_ok G x2 M) rfl (by decide) dX8_sureBook_2 lkm_X8_91 cal_X8_countOrders cX_53 rfl rfl (Nat.le_of_ble_eq_true rfl) rfl) (fun v1 M2 => ?_)
  refine r_if_ne (tgt := 10) dX8_sureBook_5 rfl (fun h3 => ?_) (fun h3 => ?_)
  · refine r_iconst (x := (-1)) dX8_sureBook_8 rfl ?_
    exact r_iret (ty := .int) dX8_sureBook_9 rfl rfl rfl
  refine r_iconst (x := 0) dX8_sureBook_10 rfl ?_
  refine r_istore_n (lv' := [some (.ref (G.2.2.2 (53))), some (.int x1), some (.int x2), some (.int 0)]) dX8_sureBook_11 (Nat.le_of_ble_eq_true rfl) rfl rfl ?_
  exact r_lk (X8_sureBook_L1_ok G x1 M2 zFU 0) (And.intro rfl (And.intro rfl (And.intro rfl True.intro)))

theorem dX11_sure_0 : decode cX11_sure 0 = .ok (.aload_n 0, 1) := by decide +kernel
theorem dX11_sure_1 : decode cX11_sure 1 = .ok (.getfield 28, 3) := by decide +kernel
theorem dX11_sure_4 : decode cX11_sure 4 = .ok (.iload_n 1, 1) := by decide +kernel
theorem dX11_sure_5 : decode cX11_sure 5 = .ok (.invokevirtual 270, 3) := by decide +kernel
theorem dX11_sure_8 : decode cX11_sure 8 = .ok (.ifCond .eq 15, 3) := by decide +kernel
theorem dX11_sure_11 : decode cX11_sure 11 = .ok (.aload_n 0, 1) := by decide +kernel
theorem dX11_sure_12 : decode cX11_sure 12 = .ok (.getfield 69, 3) := by decide +kernel
theorem dX11_sure_15 : decode cX11_sure 15 = .ok (.iload_n 1, 1) := by decide +kernel
theorem dX11_sure_16 : decode cX11_sure 16 = .ok (.iload_n 2, 1) := by decide +kernel
theorem dX11_sure_17 : decode cX11_sure 17 = .ok (.invokevirtual 286, 3) := by decide +kernel
theorem dX11_sure_20 : decode cX11_sure 20 = .ok (.goto 4, 3) := by decide +kernel
theorem dX11_sure_23 : decode cX11_sure 23 = .ok (.iconst (-1), 1) := by decide +kernel
theorem dX11_sure_24 : decode cX11_sure 24 = .ok (.ireturn, 1) := by decide +kernel
abbrev mi_X11_sure : MI := (zTX, RX11, yX11_sure, cX11_sure, 3, (some .int), 92)
theorem cal_X11_sure : zCalV mi_X11_sure 2 := ⟨⟨zTB_i6 47 (by decide +kernel), zTB_i6 45 (by decide +kernel), zTB_i6 46 (by decide +kernel), zTB_i1 1 (by decide +kernel)⟩, ⟨by decide, by decide, by decide +kernel⟩, by decide⟩
noncomputable def X11_sure (x1 : Int32) (x2 : Int32) (M : Mem) : Option (Int32 × Mem) :=
  if (X3_hasReader 23 x1 M) = true then
    bp_ (X8_sureBook x1 x2 M) fun v2 M3 =>
    some (v2, M3)
  else
  some ((-1), M)
set_option maxRecDepth 100000 in
set_option maxHeartbeats 4000000 in
theorem X11_sure_ok (G : Gh) (x1 : Int32) (x2 : Int32) (M : Mem) : Mt G mi_X11_sure [.ref (G.2.2.2 (0)), .int x1, .int x2] M ((dO dIM) (X11_sure x1 x2 M)) := by
  refine Mt_of (lv := [some (.ref (G.2.2.2 (0))), some (.int x1), some (.int x2)]) (by decide) rfl (Nat.le_of_ble_eq_true rfl) rfl ?_
  unfold X11_sure
  refine r_aload_n dX11_sure_0 rfl ?_
  refine r_getf (v := .ref (G.2.2.2 (23))) dX11_sure_1 fX_0_2 kX11 (by decide) lkf_X11_28 rfl ?_
  refine r_iload_n dX11_sure_4 rfl ?_
  refine c_Z (inv_V (mi := mi_X11_sure) (b := 23) (rest := []) (X3_hasReader_ok_23 G x1 M) rfl (by decide) dX11_sure_5 lkm_X11_270 cal_X3_hasReader cX_23 rfl rfl (Nat.le_of_ble_eq_true rfl) rfl) ?_
  refine r_ifz_eq (tgt := 23) dX11_sure_8 rfl (fun h1 => ?_) (fun h1 => ?_)
  · refine r_aload_n dX11_sure_11 rfl ?_
    refine r_getf (v := .ref (G.2.2.2 (53))) dX11_sure_12 fX_0_7 kX11 (by decide) lkf_X11_69 rfl ?_
    refine r_iload_n dX11_sure_15 rfl ?_
    refine r_iload_n dX11_sure_16 rfl ?_
    refine c_OIM rfl (inv_V (mi := mi_X11_sure) (b := 53) (rest := []) (X8_sureBook_ok G x1 x2 M) rfl (by decide) dX11_sure_17 lkm_X11_286 cal_X8_sureBook cX_53 rfl rfl (Nat.le_of_ble_eq_true rfl) rfl) (fun v2 M3 => ?_)
    refine r_goto (tgt := 24) dX11_sure_20 rfl ?_
    exact r_iret (ty := .int) dX11_sure_24 rfl rfl rfl
  refine r_iconst (x := (-1)) dX11_sure_23 rfl ?_
  exact r_iret (ty := .int) dX11_sure_24 rfl rfl rfl

theorem dX8_mostLeft_0 : decode cX8_mostLeft 0 = .ok (.iconst 0, 1) := by decide +kernel
theorem dX8_mostLeft_1 : decode cX8_mostLeft 1 = .ok (.istore_n 2, 1) := by decide +kernel
theorem dX8_mostLeft_2 : decode cX8_mostLeft 2 = .ok (.iconst 0, 1) := by decide +kernel
theorem dX8_mostLeft_3 : decode cX8_mostLeft 3 = .ok (.istore_n 3, 1) := by decide +kernel
theorem dX8_mostLeft_4 : decode cX8_mostLeft 4 = .ok (.iload_n 3, 1) := by decide +kernel
theorem dX8_mostLeft_5 : decode cX8_mostLeft 5 = .ok (.aload_n 0, 1) := by decide +kernel
theorem dX8_mostLeft_6 : decode cX8_mostLeft 6 = .ok (.getfield 39, 3) := by decide +kernel
theorem dX8_mostLeft_9 : decode cX8_mostLeft 9 = .ok (.invokevirtual 66, 3) := by decide +kernel
theorem dX8_mostLeft_12 : decode cX8_mostLeft 12 = .ok (.if_icmp .ge 26, 3) := by decide +kernel
theorem dX8_mostLeft_15 : decode cX8_mostLeft 15 = .ok (.iload_n 2, 1) := by decide +kernel
theorem dX8_mostLeft_16 : decode cX8_mostLeft 16 = .ok (.aload_n 0, 1) := by decide +kernel
theorem dX8_mostLeft_17 : decode cX8_mostLeft 17 = .ok (.getfield 36, 3) := by decide +kernel
theorem dX8_mostLeft_20 : decode cX8_mostLeft 20 = .ok (.iload_n 1, 1) := by decide +kernel
theorem dX8_mostLeft_21 : decode cX8_mostLeft 21 = .ok (.iconst 5, 1) := by decide +kernel
theorem dX8_mostLeft_22 : decode cX8_mostLeft 22 = .ok (.imul, 1) := by decide +kernel
theorem dX8_mostLeft_23 : decode cX8_mostLeft 23 = .ok (.iload_n 3, 1) := by decide +kernel
theorem dX8_mostLeft_24 : decode cX8_mostLeft 24 = .ok (.iadd, 1) := by decide +kernel
theorem dX8_mostLeft_25 : decode cX8_mostLeft 25 = .ok (.invokestatic 54, 3) := by decide +kernel
theorem dX8_mostLeft_28 : decode cX8_mostLeft 28 = .ok (.invokestatic 97, 3) := by decide +kernel
theorem dX8_mostLeft_31 : decode cX8_mostLeft 31 = .ok (.istore_n 2, 1) := by decide +kernel
theorem dX8_mostLeft_32 : decode cX8_mostLeft 32 = .ok (.iinc 3 1, 3) := by decide +kernel
theorem dX8_mostLeft_35 : decode cX8_mostLeft 35 = .ok (.goto (-31), 3) := by decide +kernel
theorem dX8_mostLeft_38 : decode cX8_mostLeft 38 = .ok (.iload_n 2, 1) := by decide +kernel
theorem dX8_mostLeft_39 : decode cX8_mostLeft 39 = .ok (.ireturn, 1) := by decide +kernel
abbrev mi_X8_mostLeft : MI := (zTX, RX8, yX8_mostLeft, cX8_mostLeft, 4, (some .int), 9)
theorem cal_X8_mostLeft : zCalV mi_X8_mostLeft 1 := ⟨⟨zTB_i6 64 (by decide +kernel), zTB_i6 62 (by decide +kernel), zTB_i6 63 (by decide +kernel), zTB_i1 12 (by decide +kernel)⟩, ⟨by decide, by decide, by decide +kernel⟩, by decide⟩
noncomputable def X8_mostLeft_L1 (x1 : Int32) (M : Mem) : Nat → Int32 → Int32 → Option (Int32)
  | 0, _, _ => none
  | n + 1, c2, c3 =>
    if (X3_readers 23 M) ≤ c3 then
      some c2
    else
    lt_ (α := Int32) ((if c2 < (X11_cell 62 ((x1 * 5) + c3) M) then (X11_cell 62 ((x1 * 5) + c3) M) else c2)) fun y2 =>
    X8_mostLeft_L1 x1 M n y2 (c3 + 1)
noncomputable def X8_mostLeft (x1 : Int32) (M : Mem) : Option (Int32) :=
  b1_ (α := Int32) (X8_mostLeft_L1 x1 M zFU 0 0) fun e3 =>
  some e3
set_option maxRecDepth 100000 in
set_option maxHeartbeats 4000000 in
theorem X8_mostLeft_L1_ok (G : Gh) (x1 : Int32) (M : Mem) {dn : Option (Int32) → Option (Option Value × Mem)} (hs : dn none = none) (hx : ∀ (e3 : Int32), Wr G mi_X8_mostLeft dn 38 [none, none, some (.int e3), none] [] M (some e3)) : ∀ (n : Nat) (c2 : Int32) (c3 : Int32), Wr G mi_X8_mostLeft dn 4 [some (.ref (G.2.2.2 (53))), some (.int x1), some (.int c2), some (.int c3)] [] M (X8_mostLeft_L1 x1 M n c2 c3) := by
  intro n
  induction n with
  | zero => intro c2 c3; exact r_none (by exact hs)
  | succ n ih =>
    intro c2 c3
    rw [X8_mostLeft_L1]
    refine r_iload_n dX8_mostLeft_4 rfl ?_
    refine r_aload_n dX8_mostLeft_5 rfl ?_
    refine r_getf (v := .ref (G.2.2.2 (23))) dX8_mostLeft_6 fX_53_0 kX8 (by decide) lkf_X8_39 rfl ?_
    refine c_I (inv_V (mi := mi_X8_mostLeft) (b := 23) (rest := [.int c3]) (X3_readers_ok_23 G M) rfl (by decide) dX8_mostLeft_9 lkm_X8_66 cal_X3_readers cX_23 rfl rfl (Nat.le_of_ble_eq_true rfl) rfl) ?_
    refine r_icmp_ge (tgt := 38) dX8_mostLeft_12 rfl (fun h1 => ?_) (fun h1 => ?_)
    · exact r_lk (hx c2) (And.intro rfl True.intro)
    refine r_iload_n dX8_mostLeft_15 rfl ?_
    refine r_aload_n dX8_mostLeft_16 rfl ?_
    refine r_getf (v := .ref (G.2.2.2 (62))) dX8_mostLeft_17 fX_53_11 kX8 (by decide) lkf_X8_36 rfl ?_
    refine r_iload_n dX8_mostLeft_20 rfl ?_
    refine r_iconst (x := 5) dX8_mostLeft_21 rfl ?_
    refine r_imul dX8_mostLeft_22 ?_
    refine r_iload_n dX8_mostLeft_23 rfl ?_
    refine r_iadd dX8_mostLeft_24 ?_
    refine c_I (inv_SN (mi := mi_X8_mostLeft) (rest := [.int c2]) (X11_cell_ok G aX_62p ((x1 * 5) + c3) M) rfl (by decide) dX8_mostLeft_25 lkm_X8_54 cal_X11_cell rfl (Nat.le_of_ble_eq_true rfl) rfl) ?_
    refine r_max dX8_mostLeft_28 lkm_X8_97 tw_mmax1 tw_m2 tw_mmax3 (by decide) (Nat.le_of_ble_eq_true rfl) ?_
    refine r_letI (fun y2 => ?_)
    refine r_istore_n (lv' := [some (.ref (G.2.2.2 (53))), some (.int x1), some (.int y2), some (.int c3)]) dX8_mostLeft_31 (Nat.le_of_ble_eq_true rfl) rfl rfl ?_
    refine r_iinc (y := c3 + 1) (lv' := [some (.ref (G.2.2.2 (53))), some (.int x1), some (.int y2), some (.int (c3 + 1))]) dX8_mostLeft_32 rfl rfl (Nat.le_of_ble_eq_true rfl) rfl rfl ?_
    refine r_goto (tgt := 4) dX8_mostLeft_35 rfl ?_
    exact r_lk (ih y2 (c3 + 1)) (And.intro rfl (And.intro rfl (And.intro rfl (And.intro rfl True.intro))))
set_option maxRecDepth 100000 in
set_option maxHeartbeats 4000000 in
theorem X8_mostLeft_ok (G : Gh) (x1 : Int32) (M : Mem) : Mt G mi_X8_mostLeft [.ref (G.2.2.2 (53)), .int x1] M ((dO (dI M)) (X8_mostLeft x1 M)) := by
  refine Mt_of (lv := [some (.ref (G.2.2.2 (53))), some (.int x1)]) (by decide) rfl (Nat.le_of_ble_eq_true rfl) rfl ?_
  refine r_le (lv' := [some (.ref (G.2.2.2 (53))), some (.int x1), none, none]) (And.intro rfl (And.intro rfl True.intro)) ?_
  unfold X8_mostLeft
  refine r_iconst (x := 0) dX8_mostLeft_0 rfl ?_
  refine r_istore_n (lv' := [some (.ref (G.2.2.2 (53))), some (.int x1), some (.int 0), none]) dX8_mostLeft_1 (Nat.le_of_ble_eq_true rfl) rfl rfl ?_
  refine r_iconst (x := 0) dX8_mostLeft_2 rfl ?_
  refine r_istore_n (lv' := [some (.ref (G.2.2.2 (53))), some (.int x1), some (.int 0), some (.int 0)]) dX8_mostLeft_3 (Nat.le_of_ble_eq_true rfl) rfl rfl ?_
  refine r_jB1 (j := 38) (lvj := fun e3 => [none, none, some (.int e3), none]) (stj := fun e3 => []) (Mj := fun e3 => M) (fun e3 => ?_) (fun hj38 => ?_)
  · refine r_iload_n dX8_mostLeft_38 rfl ?_
    exact r_iret (ty := .int) dX8_mostLeft_39 rfl rfl rfl
  exact r_lk (X8_mostLeft_L1_ok G x1 M rfl hj38 zFU 0 0) (And.intro rfl (And.intro rfl (And.intro rfl (And.intro rfl True.intro))))

theorem dX8_manToAsk_0 : decode cX8_manToAsk 0 = .ok (.aload_n 0, 1) := by decide +kernel
theorem dX8_manToAsk_1 : decode cX8_manToAsk 1 = .ok (.iload_n 1, 1) := by decide +kernel
theorem dX8_manToAsk_2 : decode cX8_manToAsk 2 = .ok (.invokevirtual 91, 3) := by decide +kernel
theorem dX8_manToAsk_5 : decode cX8_manToAsk 5 = .ok (.ifCond .ne 5, 3) := by decide +kernel
theorem dX8_manToAsk_8 : decode cX8_manToAsk 8 = .ok (.iconst (-1), 1) := by decide +kernel
theorem dX8_manToAsk_9 : decode cX8_manToAsk 9 = .ok (.ireturn, 1) := by decide +kernel
theorem dX8_manToAsk_10 : decode cX8_manToAsk 10 = .ok (.iconst (-1), 1) := by decide +kernel
theorem dX8_manToAsk_11 : decode cX8_manToAsk 11 = .ok (.istore_n 2, 1) := by decide +kernel
theorem dX8_manToAsk_12 : decode cX8_manToAsk 12 = .ok (.iconst 0, 1) := by decide +kernel
theorem dX8_manToAsk_13 : decode cX8_manToAsk 13 = .ok (.istore_n 3, 1) := by decide +kernel
theorem dX8_manToAsk_14 : decode cX8_manToAsk 14 = .ok (.iload_n 3, 1) := by decide +kernel
theorem dX8_manToAsk_15 : decode cX8_manToAsk 15 = .ok (.aload_n 0, 1) := by decide +kernel
theorem dX8_manToAsk_16 : decode cX8_manToAsk 16 = .ok (.getfield 39, 3) := by decide +kernel
theorem dX8_manToAsk_19 : decode cX8_manToAsk 19 = .ok (.invokevirtual 66, 3) := by decide +kernel
theorem dX8_manToAsk_22 : decode cX8_manToAsk 22 = .ok (.if_icmp .ge 29, 3) := by decide +kernel
theorem dX8_manToAsk_25 : decode cX8_manToAsk 25 = .ok (.iload_n 2, 1) := by decide +kernel
theorem dX8_manToAsk_26 : decode cX8_manToAsk 26 = .ok (.iconst (-1), 1) := by decide +kernel
theorem dX8_manToAsk_27 : decode cX8_manToAsk 27 = .ok (.if_icmp .eq 16, 3) := by decide +kernel
theorem dX8_manToAsk_30 : decode cX8_manToAsk 30 = .ok (.aload_n 0, 1) := by decide +kernel
theorem dX8_manToAsk_31 : decode cX8_manToAsk 31 = .ok (.iload_n 3, 1) := by decide +kernel
theorem dX8_manToAsk_32 : decode cX8_manToAsk 32 = .ok (.invokevirtual 94, 3) := by decide +kernel
theorem dX8_manToAsk_35 : decode cX8_manToAsk 35 = .ok (.aload_n 0, 1) := by decide +kernel
theorem dX8_manToAsk_36 : decode cX8_manToAsk 36 = .ok (.iload_n 2, 1) := by decide +kernel
theorem dX8_manToAsk_37 : decode cX8_manToAsk 37 = .ok (.invokevirtual 94, 3) := by decide +kernel
theorem dX8_manToAsk_40 : decode cX8_manToAsk 40 = .ok (.if_icmp .ge 5, 3) := by decide +kernel
theorem dX8_manToAsk_43 : decode cX8_manToAsk 43 = .ok (.iload_n 3, 1) := by decide +kernel
theorem dX8_manToAsk_44 : decode cX8_manToAsk 44 = .ok (.istore_n 2, 1) := by decide +kernel
theorem dX8_manToAsk_45 : decode cX8_manToAsk 45 = .ok (.iinc 3 1, 3) := by decide +kernel
theorem dX8_manToAsk_48 : decode cX8_manToAsk 48 = .ok (.goto (-34), 3) := by decide +kernel
theorem dX8_manToAsk_51 : decode cX8_manToAsk 51 = .ok (.iload_n 2, 1) := by decide +kernel
theorem dX8_manToAsk_52 : decode cX8_manToAsk 52 = .ok (.ireturn, 1) := by decide +kernel
abbrev mi_X8_manToAsk : MI := (zTX, RX8, yX8_manToAsk, cX8_manToAsk, 4, (some .int), 91)
theorem cal_X8_manToAsk : zCalV mi_X8_manToAsk 1 := ⟨⟨zTB_i6 60 (by decide +kernel), zTB_i6 58 (by decide +kernel), zTB_i6 59 (by decide +kernel), zTB_i1 12 (by decide +kernel)⟩, ⟨by decide, by decide, by decide +kernel⟩, by decide⟩
noncomputable def X8_manToAsk_L1 (M : Mem) : Nat → Int32 → Int32 → Option (Int32)
  | 0, _, _ => none
  | n + 1, c2, c3 =>
    if (X3_readers 23 M) ≤ c3 then
      some c2
    else
    b1_ (α := Int32) (
      b1_ (α := Bool) (
        if c2 = (-1) then
          some true
        else
        bo_ (X8_mostLeft c3 M) fun v6 =>
        bo_ (X8_mostLeft c2 M) fun v7 =>
        if v7 ≤ v6 then
          some false
        else
        some true) fun t9 =>
      if t9 = true then
        some c3
      else
      some c2) fun y11 =>
    X8_manToAsk_L1 M n y11 (c3 + 1)
noncomputable def X8_manToAsk (x1 : Int32) (M : Mem) : Option (Int32 × Mem) :=
  bp_ (X8_countOrders x1 M) fun v1 M2 =>
  if v1 = 0 then
    some ((-1), M2)
  else
  b1_ (α := Int32) (X8_manToAsk_L1 M2 zFU (-1) 0) fun e12 =>
  some (e12, M2)
set_option maxRecDepth 100000 in
set_option maxHeartbeats 4000000 in
theorem X8_manToAsk_L1_ok (G : Gh) (M : Mem) {dn : Option (Int32) → Option (Option Value × Mem)} (hs : dn none = none) (hx : ∀ (e12 : Int32), Wr G mi_X8_manToAsk dn 51 [none, none, some (.int e12), none] [] M (some e12)) : ∀ (n : Nat) (c2 : Int32) (c3 : Int32), Wr G mi_X8_manToAsk dn 14 [some (.ref (G.2.2.2 (53))), none, some (.int c2), some (.int c3)] [] M (X8_manToAsk_L1 M n c2 c3) := by
  intro n
  induction n with
  | zero => intro c2 c3; exact r_none (by exact hs)
  | succ n ih =>
    intro c2 c3
    rw [X8_manToAsk_L1]
    refine r_iload_n dX8_manToAsk_14 rfl ?_
    refine r_aload_n dX8_manToAsk_15 rfl ?_
    refine r_getf (v := .ref (G.2.2.2 (23))) dX8_manToAsk_16 fX_53_0 kX8 (by decide) lkf_X8_39 rfl ?_
    refine c_I (inv_V (mi := mi_X8_manToAsk) (b := 23) (rest := [.int c3]) (X3_readers_ok_23 G M) rfl (by decide) dX8_manToAsk_19 lkm_X8_66 cal_X3_readers cX_23 rfl rfl (Nat.le_of_ble_eq_true rfl) rfl) ?_
    refine r_icmp_ge (tgt := 51) dX8_manToAsk_22 rfl (fun h4 => ?_) (fun h4 => ?_)
    · exact r_lk (hx c2) (And.intro rfl True.intro)
    refine r_iload_n dX8_manToAsk_25 rfl ?_
    refine r_iconst (x := (-1)) dX8_manToAsk_26 rfl ?_
    refine r_jB1 (j := 45) (lvj := fun y11 => [some (.ref (G.2.2.2 (53))), none, some (.int y11), some (.int c3)]) (stj := fun y11 => []) (Mj := fun y11 => M) (fun y11 => ?_) (fun hj45 => ?_)
    · refine r_iinc (y := c3 + 1) (lv' := [some (.ref (G.2.2.2 (53))), none, some (.int y11), some (.int (c3 + 1))]) dX8_manToAsk_45 rfl rfl (Nat.le_of_ble_eq_true rfl) rfl rfl ?_
      refine r_goto (tgt := 14) dX8_manToAsk_48 rfl ?_
      exact r_lk (ih y11 (c3 + 1)) (And.intro rfl (And.intro rfl (And.intro rfl True.intro)))
    refine r_cB (jX := 43) (jY := 45) (lvX := [some (.ref (G.2.2.2 (53))), none, none, some (.int c3)]) (lvY := [some (.ref (G.2.2.2 (53))), none, some (.int c2), some (.int c3)]) (stX := []) (M1 := M) (fun h10 => ?_) (fun h10 => ?_) (fun hX43 hY45 => ?_)
    · refine r_eq (if_pos rfl) ?_
      refine r_iload_n dX8_manToAsk_43 rfl ?_
      refine r_istore_n (lv' := [some (.ref (G.2.2.2 (53))), none, some (.int c3), some (.int c3)]) dX8_manToAsk_44 (Nat.le_of_ble_eq_true rfl) rfl rfl ?_
      exact r_lk (hj45 c3) (And.intro rfl (And.intro rfl (And.intro rfl True.intro)))
    · refine r_eq (if_neg (by decide)) ?_
      exact r_lk (hj45 c2) (And.intro rfl (And.intro rfl (And.intro rfl True.intro)))
    refine r_icmp_eq (tgt := 43) dX8_manToAsk_27 rfl (fun h5 => ?_) (fun h5 => ?_)
    · exact r_lk hX43 (And.intro rfl (And.intro rfl True.intro))
    refine r_aload_n dX8_manToAsk_30 rfl ?_
    refine r_iload_n dX8_manToAsk_31 rfl ?_
    refine c_OI (by exact hs) (inv_V (mi := mi_X8_manToAsk) (b := 53) (rest := []) (X8_mostLeft_ok G c3 M) rfl (by decide) dX8_manToAsk_32 lkm_X8_94 cal_X8_mostLeft cX_53 rfl rfl (Nat.le_of_ble_eq_true rfl) rfl) (fun v6 => ?_)
    refine r_aload_n dX8_manToAsk_35 rfl ?_
    refine r_iload_n dX8_manToAsk_36 rfl ?_
    refine c_OI (by exact hs) (inv_V (mi := mi_X8_manToAsk) (b := 53) (rest := [.int v6]) (X8_mostLeft_ok G c2 M) rfl (by decide) dX8_manToAsk_37 lkm_X8_94 cal_X8_mostLeft cX_53 rfl rfl (Nat.le_of_ble_eq_true rfl) rfl) (fun v7 => ?_)
    refine r_icmp_ge (tgt := 45) dX8_manToAsk_40 rfl (fun h8 => ?_) (fun h8 => ?_)
    · exact r_lk hY45 (And.intro rfl (And.intro rfl (And.intro rfl True.intro)))
    exact r_lk hX43 (And.intro rfl (And.intro rfl True.intro))
set_option maxRecDepth 100000 in
set_option maxHeartbeats 4000000 in
theorem X8_manToAsk_ok (G : Gh) (x1 : Int32) (M : Mem) : Mt G mi_X8_manToAsk [.ref (G.2.2.2 (53)), .int x1] M ((dO dIM) (X8_manToAsk x1 M)) := by
  refine Mt_of (lv := [some (.ref (G.2.2.2 (53))), some (.int x1)]) (by decide) rfl (Nat.le_of_ble_eq_true rfl) rfl ?_
  refine r_le (lv' := [some (.ref (G.2.2.2 (53))), some (.int x1), none, none]) (And.intro rfl (And.intro rfl True.intro)) ?_
  unfold X8_manToAsk
  refine r_aload_n dX8_manToAsk_0 rfl ?_
  refine r_iload_n dX8_manToAsk_1 rfl ?_
  refine c_OIM rfl (inv_V (mi := mi_X8_manToAsk) (b := 53) (rest := []) (X8_countOrders_ok G x1 M) rfl (by decide) dX8_manToAsk_2 lkm_X8_91 cal_X8_countOrders cX_53 rfl rfl (Nat.le_of_ble_eq_true rfl) rfl) (fun v1 M2 => ?_)
  refine r_if_ne (tgt := 10) dX8_manToAsk_5 rfl (fun h3 => ?_) (fun h3 => ?_)
  · refine r_iconst (x := (-1)) dX8_manToAsk_8 rfl ?_
    exact r_iret (ty := .int) dX8_manToAsk_9 rfl rfl rfl
  refine r_iconst (x := (-1)) dX8_manToAsk_10 rfl ?_
  refine r_istore_n (lv' := [some (.ref (G.2.2.2 (53))), some (.int x1), some (.int ((-1))), none]) dX8_manToAsk_11 (Nat.le_of_ble_eq_true rfl) rfl rfl ?_
  refine r_iconst (x := 0) dX8_manToAsk_12 rfl ?_
  refine r_istore_n (lv' := [some (.ref (G.2.2.2 (53))), some (.int x1), some (.int ((-1))), some (.int 0)]) dX8_manToAsk_13 (Nat.le_of_ble_eq_true rfl) rfl rfl ?_
  refine r_jB1 (j := 51) (lvj := fun e12 => [none, none, some (.int e12), none]) (stj := fun e12 => []) (Mj := fun e12 => M2) (fun e12 => ?_) (fun hj51 => ?_)
  · refine r_iload_n dX8_manToAsk_51 rfl ?_
    exact r_iret (ty := .int) dX8_manToAsk_52 rfl rfl rfl
  exact r_lk (X8_manToAsk_L1_ok G M2 rfl hj51 zFU (-1) 0) (And.intro rfl (And.intro rfl (And.intro rfl True.intro)))

theorem dX11_ask_0 : decode cX11_ask 0 = .ok (.iload_n 1, 1) := by decide +kernel
theorem dX11_ask_1 : decode cX11_ask 1 = .ok (.ifCond .lt 8, 3) := by decide +kernel
theorem dX11_ask_4 : decode cX11_ask 4 = .ok (.iload_n 1, 1) := by decide +kernel
theorem dX11_ask_5 : decode cX11_ask 5 = .ok (.iconst 1, 1) := by decide +kernel
theorem dX11_ask_6 : decode cX11_ask 6 = .ok (.if_icmp .le 5, 3) := by decide +kernel
theorem dX11_ask_9 : decode cX11_ask 9 = .ok (.iconst (-1), 1) := by decide +kernel
theorem dX11_ask_10 : decode cX11_ask 10 = .ok (.ireturn, 1) := by decide +kernel
theorem dX11_ask_11 : decode cX11_ask 11 = .ok (.aload_n 0, 1) := by decide +kernel
theorem dX11_ask_12 : decode cX11_ask 12 = .ok (.getfield 69, 3) := by decide +kernel
theorem dX11_ask_15 : decode cX11_ask 15 = .ok (.iload_n 2, 1) := by decide +kernel
theorem dX11_ask_16 : decode cX11_ask 16 = .ok (.invokevirtual 289, 3) := by decide +kernel
theorem dX11_ask_19 : decode cX11_ask 19 = .ok (.istore_n 3, 1) := by decide +kernel
theorem dX11_ask_20 : decode cX11_ask 20 = .ok (.iload_n 3, 1) := by decide +kernel
theorem dX11_ask_21 : decode cX11_ask 21 = .ok (.iconst (-1), 1) := by decide +kernel
theorem dX11_ask_22 : decode cX11_ask 22 = .ok (.if_icmp .ne 5, 3) := by decide +kernel
theorem dX11_ask_25 : decode cX11_ask 25 = .ok (.iconst (-1), 1) := by decide +kernel
theorem dX11_ask_26 : decode cX11_ask 26 = .ok (.ireturn, 1) := by decide +kernel
theorem dX11_ask_27 : decode cX11_ask 27 = .ok (.iload_n 1, 1) := by decide +kernel
theorem dX11_ask_28 : decode cX11_ask 28 = .ok (.ifCond .ne 7, 3) := by decide +kernel
theorem dX11_ask_31 : decode cX11_ask 31 = .ok (.iload_n 3, 1) := by decide +kernel
theorem dX11_ask_32 : decode cX11_ask 32 = .ok (.goto 11, 3) := by decide +kernel
theorem dX11_ask_35 : decode cX11_ask 35 = .ok (.aload_n 0, 1) := by decide +kernel
theorem dX11_ask_36 : decode cX11_ask 36 = .ok (.getfield 69, 3) := by decide +kernel
theorem dX11_ask_39 : decode cX11_ask 39 = .ok (.iload_n 3, 1) := by decide +kernel
theorem dX11_ask_40 : decode cX11_ask 40 = .ok (.invokevirtual 292, 3) := by decide +kernel
theorem dX11_ask_43 : decode cX11_ask 43 = .ok (.ireturn, 1) := by decide +kernel
abbrev mi_X11_ask : MI := (zTX, RX11, yX11_ask, cX11_ask, 4, (some .int), 92)
theorem cal_X11_ask : zCalV mi_X11_ask 2 := ⟨⟨zTB_i6 56 (by decide +kernel), zTB_i6 54 (by decide +kernel), zTB_i6 55 (by decide +kernel), zTB_i1 1 (by decide +kernel)⟩, ⟨by decide, by decide, by decide +kernel⟩, by decide⟩
noncomputable def X11_ask (x1 : Int32) (x2 : Int32) (M : Mem) : Option (Int32 × Mem) :=
  if x1 < 0 then
    some ((-1), M)
  else
  if x1 ≤ 1 then
    bp_ (X8_manToAsk x2 M) fun v3 M4 =>
    if v3 = (-1) then
      some ((-1), M4)
    else
    if x1 = 0 then
      some (v3, M4)
    else
    bo_ (X8_mostLeft v3 M4) fun v7 =>
    some (v7, M4)
  else
  some ((-1), M)
set_option maxRecDepth 100000 in
set_option maxHeartbeats 4000000 in
theorem X11_ask_ok (G : Gh) (x1 : Int32) (x2 : Int32) (M : Mem) : Mt G mi_X11_ask [.ref (G.2.2.2 (0)), .int x1, .int x2] M ((dO dIM) (X11_ask x1 x2 M)) := by
  refine Mt_of (lv := [some (.ref (G.2.2.2 (0))), some (.int x1), some (.int x2)]) (by decide) rfl (Nat.le_of_ble_eq_true rfl) rfl ?_
  refine r_le (lv' := [some (.ref (G.2.2.2 (0))), some (.int x1), some (.int x2), none]) (And.intro rfl (And.intro rfl (And.intro rfl True.intro))) ?_
  unfold X11_ask
  refine r_iload_n dX11_ask_0 rfl ?_
  refine r_if_lt (tgt := 9) dX11_ask_1 rfl (fun h1 => ?_) (fun h1 => ?_)
  · refine r_iconst (x := (-1)) dX11_ask_9 rfl ?_
    exact r_iret (ty := .int) dX11_ask_10 rfl rfl rfl
  refine r_iload_n dX11_ask_4 rfl ?_
  refine r_iconst (x := 1) dX11_ask_5 rfl ?_
  refine r_icmp_le (tgt := 11) dX11_ask_6 rfl (fun h2 => ?_) (fun h2 => ?_)
  · refine r_aload_n dX11_ask_11 rfl ?_
    refine r_getf (v := .ref (G.2.2.2 (53))) dX11_ask_12 fX_0_7 kX11 (by decide) lkf_X11_69 rfl ?_
    refine r_iload_n dX11_ask_15 rfl ?_
    refine c_OIM rfl (inv_V (mi := mi_X11_ask) (b := 53) (rest := []) (X8_manToAsk_ok G x2 M) rfl (by decide) dX11_ask_16 lkm_X11_289 cal_X8_manToAsk cX_53 rfl rfl (Nat.le_of_ble_eq_true rfl) rfl) (fun v3 M4 => ?_)
    refine r_istore_n (lv' := [some (.ref (G.2.2.2 (0))), some (.int x1), some (.int x2), some (.int v3)]) dX11_ask_19 (Nat.le_of_ble_eq_true rfl) rfl rfl ?_
    refine r_iload_n dX11_ask_20 rfl ?_
    refine r_iconst (x := (-1)) dX11_ask_21 rfl ?_
    refine r_icmp_ne (tgt := 27) dX11_ask_22 rfl (fun h5 => ?_) (fun h5 => ?_)
    · refine r_iconst (x := (-1)) dX11_ask_25 rfl ?_
      exact r_iret (ty := .int) dX11_ask_26 rfl rfl rfl
    refine r_iload_n dX11_ask_27 rfl ?_
    refine r_if_ne (tgt := 35) dX11_ask_28 rfl (fun h6 => ?_) (fun h6 => ?_)
    · refine r_iload_n dX11_ask_31 rfl ?_
      refine r_goto (tgt := 43) dX11_ask_32 rfl ?_
      exact r_iret (ty := .int) dX11_ask_43 rfl rfl rfl
    refine r_aload_n dX11_ask_35 rfl ?_
    refine r_getf (v := .ref (G.2.2.2 (53))) dX11_ask_36 fX_0_7 kX11 (by decide) lkf_X11_69 rfl ?_
    refine r_iload_n dX11_ask_39 rfl ?_
    refine c_OI rfl (inv_V (mi := mi_X11_ask) (b := 53) (rest := []) (X8_mostLeft_ok G v3 M4) rfl (by decide) dX11_ask_40 lkm_X11_292 cal_X8_mostLeft cX_53 rfl rfl (Nat.le_of_ble_eq_true rfl) rfl) (fun v7 => ?_)
    exact r_iret (ty := .int) dX11_ask_43 rfl rfl rfl
  refine r_iconst (x := (-1)) dX11_ask_9 rfl ?_
  exact r_iret (ty := .int) dX11_ask_10 rfl rfl rfl

theorem dX11_image_0 : decode cX11_image 0 = .ok (.iload_n 1, 1) := by decide +kernel
theorem dX11_image_1 : decode cX11_image 1 = .ok (.ifCond .lt 12, 3) := by decide +kernel
theorem dX11_image_4 : decode cX11_image 4 = .ok (.iload_n 1, 1) := by decide +kernel
theorem dX11_image_5 : decode cX11_image 5 = .ok (.aload_n 0, 1) := by decide +kernel
theorem dX11_image_6 : decode cX11_image 6 = .ok (.getfield 77, 3) := by decide +kernel
theorem dX11_image_9 : decode cX11_image 9 = .ok (.arraylength, 1) := by decide +kernel
theorem dX11_image_10 : decode cX11_image 10 = .ok (.if_icmp .lt 5, 3) := by decide +kernel
theorem dX11_image_13 : decode cX11_image 13 = .ok (.iconst (-1), 1) := by decide +kernel
theorem dX11_image_14 : decode cX11_image 14 = .ok (.ireturn, 1) := by decide +kernel
theorem dX11_image_15 : decode cX11_image 15 = .ok (.aload_n 0, 1) := by decide +kernel
theorem dX11_image_16 : decode cX11_image 16 = .ok (.getfield 37, 3) := by decide +kernel
theorem dX11_image_19 : decode cX11_image 19 = .ok (.aload_n 0, 1) := by decide +kernel
theorem dX11_image_20 : decode cX11_image 20 = .ok (.getfield 73, 3) := by decide +kernel
theorem dX11_image_23 : decode cX11_image 23 = .ok (.iload_n 1, 1) := by decide +kernel
theorem dX11_image_24 : decode cX11_image 24 = .ok (.invokevirtual 295, 3) := by decide +kernel
theorem dX11_image_27 : decode cX11_image 27 = .ok (.aload_n 0, 1) := by decide +kernel
theorem dX11_image_28 : decode cX11_image 28 = .ok (.getfield 77, 3) := by decide +kernel
theorem dX11_image_31 : decode cX11_image 31 = .ok (.iload_n 1, 1) := by decide +kernel
theorem dX11_image_32 : decode cX11_image 32 = .ok (.iconst 1, 1) := by decide +kernel
theorem dX11_image_33 : decode cX11_image 33 = .ok (.bastore, 1) := by decide +kernel
theorem dX11_image_34 : decode cX11_image 34 = .ok (.aload_n 0, 1) := by decide +kernel
theorem dX11_image_35 : decode cX11_image 35 = .ok (.getfield 37, 3) := by decide +kernel
theorem dX11_image_38 : decode cX11_image 38 = .ok (.invokevirtual 186, 3) := by decide +kernel
theorem dX11_image_41 : decode cX11_image 41 = .ok (.ireturn, 1) := by decide +kernel
abbrev mi_X11_image : MI := (zTX, RX11, yX11_image, cX11_image, 2, (some .int), 9)
theorem cal_X11_image : zCalV mi_X11_image 1 := ⟨⟨zTB_i6 70 (by decide +kernel), zTB_i6 68 (by decide +kernel), zTB_i6 69 (by decide +kernel), zTB_i1 1 (by decide +kernel)⟩, ⟨by decide, by decide, by decide +kernel⟩, by decide⟩
noncomputable def X11_image (x1 : Int32) (M : Mem) : Option (Int32 × Mem) :=
  if x1 < 0 then
    some ((-1), M)
  else
  if x1 < (3) then
    bo_ (X9_saveTo 35 63 x1 M) fun M3 =>
    lt_ (uI M3 64 x1.toNatClampNeg 1) fun M4 =>
    some ((X9_weekNow 35 M4), M4)
  else
  some ((-1), M)
set_option maxRecDepth 100000 in
set_option maxHeartbeats 4000000 in
theorem X11_image_ok (G : Gh) (x1 : Int32) (M : Mem) : Mt G mi_X11_image [.ref (G.2.2.2 (0)), .int x1] M ((dO dIM) (X11_image x1 M)) := by
  refine Mt_of (lv := [some (.ref (G.2.2.2 (0))), some (.int x1)]) (by decide) rfl (Nat.le_of_ble_eq_true rfl) rfl ?_
  unfold X11_image
  refine r_iload_n dX11_image_0 rfl ?_
  refine r_if_lt (tgt := 13) dX11_image_1 rfl (fun h1 => ?_) (fun h1 => ?_)
  · refine r_iconst (x := (-1)) dX11_image_13 rfl ?_
    exact r_iret (ty := .int) dX11_image_14 rfl rfl rfl
  refine r_iload_n dX11_image_4 rfl ?_
  refine r_aload_n dX11_image_5 rfl ?_
  refine r_getf (v := .ref (G.2.2.2 (64))) dX11_image_6 fX_0_9 kX11 (by decide) lkf_X11_77 rfl ?_
  refine r_alen (v := 3) dX11_image_9 aX_64 (by decide) rfl ?_
  refine r_icmp_lt (tgt := 15) dX11_image_10 rfl (fun h2 => ?_) (fun h2 => ?_)
  · refine r_aload_n dX11_image_15 rfl ?_
    refine r_getf (v := .ref (G.2.2.2 (35))) dX11_image_16 fX_0_3 kX11 (by decide) lkf_X11_37 rfl ?_
    refine r_aload_n dX11_image_19 rfl ?_
    refine r_getf (v := .ref (G.2.2.2 (63))) dX11_image_20 fX_0_8 kX11 (by decide) lkf_X11_73 rfl ?_
    refine r_iload_n dX11_image_23 rfl ?_
    refine c_OV rfl (inv_V (mi := mi_X11_image) (b := 35) (rest := []) (X9_saveTo_ok_35 G aX_63p x1 M) rfl (by decide) dX11_image_24 lkm_X11_295 cal_X9_saveTo cX_35 rfl rfl (Nat.le_of_ble_eq_true rfl) rfl) (fun M3 => ?_)
    refine r_aload_n dX11_image_27 rfl ?_
    refine r_getf (v := .ref (G.2.2.2 (64))) dX11_image_28 fX_0_9 kX11 (by decide) lkf_X11_77 rfl ?_
    refine r_iload_n dX11_image_31 rfl ?_
    refine r_iconst (x := 1) dX11_image_32 rfl ?_
    refine r_zast dX11_image_33 aX_64 (vin h1 (zi_nle h2) (by decide)) rfl (y := 1) rfl (fun M4 => ?_)
    refine r_aload_n dX11_image_34 rfl ?_
    refine r_getf (v := .ref (G.2.2.2 (35))) dX11_image_35 fX_0_3 kX11 (by decide) lkf_X11_37 rfl ?_
    refine c_I (inv_V (mi := mi_X11_image) (b := 35) (rest := []) (X9_weekNow_ok_35 G M4) rfl (by decide) dX11_image_38 lkm_X11_186 cal_X9_weekNow cX_35 rfl rfl (Nat.le_of_ble_eq_true rfl) rfl) ?_
    exact r_iret (ty := .int) dX11_image_41 rfl rfl rfl
  refine r_iconst (x := (-1)) dX11_image_13 rfl ?_
  exact r_iret (ty := .int) dX11_image_14 rfl rfl rfl

theorem dX11_back_0 : decode cX11_back 0 = .ok (.iload_n 1, 1) := by decide +kernel
theorem dX11_back_1 : decode cX11_back 1 = .ok (.ifCond .lt 21, 3) := by decide +kernel
theorem dX11_back_4 : decode cX11_back 4 = .ok (.iload_n 1, 1) := by decide +kernel
theorem dX11_back_5 : decode cX11_back 5 = .ok (.aload_n 0, 1) := by decide +kernel
theorem dX11_back_6 : decode cX11_back 6 = .ok (.getfield 77, 3) := by decide +kernel
theorem dX11_back_9 : decode cX11_back 9 = .ok (.arraylength, 1) := by decide +kernel
theorem dX11_back_10 : decode cX11_back 10 = .ok (.if_icmp .ge 12, 3) := by decide +kernel
theorem dX11_back_13 : decode cX11_back 13 = .ok (.aload_n 0, 1) := by decide +kernel
theorem dX11_back_14 : decode cX11_back 14 = .ok (.getfield 77, 3) := by decide +kernel
theorem dX11_back_17 : decode cX11_back 17 = .ok (.iload_n 1, 1) := by decide +kernel
theorem dX11_back_18 : decode cX11_back 18 = .ok (.baload, 1) := by decide +kernel
theorem dX11_back_19 : decode cX11_back 19 = .ok (.ifCond .ne 5, 3) := by decide +kernel
theorem dX11_back_22 : decode cX11_back 22 = .ok (.iconst (-1), 1) := by decide +kernel
theorem dX11_back_23 : decode cX11_back 23 = .ok (.ireturn, 1) := by decide +kernel
theorem dX11_back_24 : decode cX11_back 24 = .ok (.aload_n 0, 1) := by decide +kernel
theorem dX11_back_25 : decode cX11_back 25 = .ok (.getfield 37, 3) := by decide +kernel
theorem dX11_back_28 : decode cX11_back 28 = .ok (.aload_n 0, 1) := by decide +kernel
theorem dX11_back_29 : decode cX11_back 29 = .ok (.getfield 73, 3) := by decide +kernel
theorem dX11_back_32 : decode cX11_back 32 = .ok (.iload_n 1, 1) := by decide +kernel
theorem dX11_back_33 : decode cX11_back 33 = .ok (.invokevirtual 299, 3) := by decide +kernel
theorem dX11_back_36 : decode cX11_back 36 = .ok (.aload_n 0, 1) := by decide +kernel
theorem dX11_back_37 : decode cX11_back 37 = .ok (.getfield 46, 3) := by decide +kernel
theorem dX11_back_40 : decode cX11_back 40 = .ok (.invokevirtual 102, 3) := by decide +kernel
theorem dX11_back_43 : decode cX11_back 43 = .ok (.aload_n 0, 1) := by decide +kernel
theorem dX11_back_44 : decode cX11_back 44 = .ok (.getfield 37, 3) := by decide +kernel
theorem dX11_back_47 : decode cX11_back 47 = .ok (.invokevirtual 186, 3) := by decide +kernel
theorem dX11_back_50 : decode cX11_back 50 = .ok (.ireturn, 1) := by decide +kernel
abbrev mi_X11_back : MI := (zTX, RX11, yX11_back, cX11_back, 2, (some .int), 10)
theorem cal_X11_back : zCalV mi_X11_back 1 := ⟨⟨zTB_i6 75 (by decide +kernel), zTB_i6 73 (by decide +kernel), zTB_i6 74 (by decide +kernel), zTB_i1 1 (by decide +kernel)⟩, ⟨by decide, by decide, by decide +kernel⟩, by decide⟩
noncomputable def X11_back (x1 : Int32) (M : Mem) : Option (Int32 × Mem) :=
  if x1 < 0 then
    some ((-1), M)
  else
  if (3) ≤ x1 then
    some ((-1), M)
  else
  if (M.1 64 x1.toNatClampNeg) = 0 then
    some ((-1), M)
  else
  bo_ (X9_loadFrom 35 63 x1 M) fun M4 =>
  bo_ (X0_forget M4) fun M5 =>
  some ((X9_weekNow 35 M5), M5)
set_option maxRecDepth 100000 in
set_option maxHeartbeats 4000000 in
theorem X11_back_ok (G : Gh) (x1 : Int32) (M : Mem) : Mt G mi_X11_back [.ref (G.2.2.2 (0)), .int x1] M ((dO dIM) (X11_back x1 M)) := by
  refine Mt_of (lv := [some (.ref (G.2.2.2 (0))), some (.int x1)]) (by decide) rfl (Nat.le_of_ble_eq_true rfl) rfl ?_
  unfold X11_back
  refine r_iload_n dX11_back_0 rfl ?_
  refine r_if_lt (tgt := 22) dX11_back_1 rfl (fun h1 => ?_) (fun h1 => ?_)
  · refine r_iconst (x := (-1)) dX11_back_22 rfl ?_
    exact r_iret (ty := .int) dX11_back_23 rfl rfl rfl
  refine r_iload_n dX11_back_4 rfl ?_
  refine r_aload_n dX11_back_5 rfl ?_
  refine r_getf (v := .ref (G.2.2.2 (64))) dX11_back_6 fX_0_9 kX11 (by decide) lkf_X11_77 rfl ?_
  refine r_alen (v := 3) dX11_back_9 aX_64 (by decide) rfl ?_
  refine r_icmp_ge (tgt := 22) dX11_back_10 rfl (fun h2 => ?_) (fun h2 => ?_)
  · refine r_iconst (x := (-1)) dX11_back_22 rfl ?_
    exact r_iret (ty := .int) dX11_back_23 rfl rfl rfl
  refine r_aload_n dX11_back_13 rfl ?_
  refine r_getf (v := .ref (G.2.2.2 (64))) dX11_back_14 fX_0_9 kX11 (by decide) lkf_X11_77 rfl ?_
  refine r_iload_n dX11_back_17 rfl ?_
  refine r_zald dX11_back_18 aX_64 (vin h1 h2 (by decide)) rfl ?_
  refine r_if_ne (tgt := 24) dX11_back_19 rfl (fun h3 => ?_) (fun h3 => ?_)
  · refine r_iconst (x := (-1)) dX11_back_22 rfl ?_
    exact r_iret (ty := .int) dX11_back_23 rfl rfl rfl
  refine r_aload_n dX11_back_24 rfl ?_
  refine r_getf (v := .ref (G.2.2.2 (35))) dX11_back_25 fX_0_3 kX11 (by decide) lkf_X11_37 rfl ?_
  refine r_aload_n dX11_back_28 rfl ?_
  refine r_getf (v := .ref (G.2.2.2 (63))) dX11_back_29 fX_0_8 kX11 (by decide) lkf_X11_73 rfl ?_
  refine r_iload_n dX11_back_32 rfl ?_
  refine c_OV rfl (inv_V (mi := mi_X11_back) (b := 35) (rest := []) (X9_loadFrom_ok_35 G aX_63p x1 M) rfl (by decide) dX11_back_33 lkm_X11_299 cal_X9_loadFrom cX_35 rfl rfl (Nat.le_of_ble_eq_true rfl) rfl) (fun M4 => ?_)
  refine r_aload_n dX11_back_36 rfl ?_
  refine r_getf (v := .ref (G.2.2.2 (39))) dX11_back_37 fX_0_4 kX11 (by decide) lkf_X11_46 rfl ?_
  refine c_OV rfl (inv_V (mi := mi_X11_back) (b := 39) (rest := []) (X0_forget_ok G M4) rfl (by decide) dX11_back_40 lkm_X11_102 cal_X0_forget cX_39 rfl rfl (Nat.le_of_ble_eq_true rfl) rfl) (fun M5 => ?_)
  refine r_aload_n dX11_back_43 rfl ?_
  refine r_getf (v := .ref (G.2.2.2 (35))) dX11_back_44 fX_0_3 kX11 (by decide) lkf_X11_37 rfl ?_
  refine c_I (inv_V (mi := mi_X11_back) (b := 35) (rest := []) (X9_weekNow_ok_35 G M5) rfl (by decide) dX11_back_47 lkm_X11_186 cal_X9_weekNow cX_35 rfl rfl (Nat.le_of_ble_eq_true rfl) rfl) ?_
  exact r_iret (ty := .int) dX11_back_50 rfl rfl rfl

theorem dX0_undoable_0 : decode cX0_undoable 0 = .ok (.aload_n 0, 1) := by decide +kernel
theorem dX0_undoable_1 : decode cX0_undoable 1 = .ok (.getfield 23, 3) := by decide +kernel
theorem dX0_undoable_4 : decode cX0_undoable 4 = .ok (.ireturn, 1) := by decide +kernel
abbrev mi_X0_undoable : MI := (zTX, RX0, yX0_undoable, cX0_undoable, 1, (some .int), 2)
theorem cal_X0_undoable : zCalV mi_X0_undoable 0 := ⟨⟨zTB_i6 85 (by decide +kernel), zTB_i6 83 (by decide +kernel), zTB_i6 84 (by decide +kernel), zTB_i1 9 (by decide +kernel)⟩, ⟨by decide, by decide, by decide +kernel⟩, by decide⟩
noncomputable def X0_undoable (M : Mem) : Int32 :=
  M.1 39 3
set_option maxRecDepth 100000 in
set_option maxHeartbeats 4000000 in
theorem X0_undoable_ok (G : Gh) (M : Mem) : Mt G mi_X0_undoable [.ref (G.2.2.2 (39))] M ((dI M) (X0_undoable M)) := by
  refine Mt_of (lv := [some (.ref (G.2.2.2 (39)))]) (by decide) rfl (Nat.le_of_ble_eq_true rfl) rfl ?_
  unfold X0_undoable
  refine r_aload_n dX0_undoable_0 rfl ?_
  refine r_getf (v := .int (M.1 39 3)) dX0_undoable_1 fX_39_3 kX0 (by decide) lkf_X0_23 rfl ?_
  exact r_iret (ty := .int) dX0_undoable_4 rfl rfl rfl

theorem dX0_redoable_0 : decode cX0_redoable 0 = .ok (.aload_n 0, 1) := by decide +kernel
theorem dX0_redoable_1 : decode cX0_redoable 1 = .ok (.getfield 26, 3) := by decide +kernel
theorem dX0_redoable_4 : decode cX0_redoable 4 = .ok (.aload_n 0, 1) := by decide +kernel
theorem dX0_redoable_5 : decode cX0_redoable 5 = .ok (.getfield 23, 3) := by decide +kernel
theorem dX0_redoable_8 : decode cX0_redoable 8 = .ok (.isub, 1) := by decide +kernel
theorem dX0_redoable_9 : decode cX0_redoable 9 = .ok (.ireturn, 1) := by decide +kernel
abbrev mi_X0_redoable : MI := (zTX, RX0, yX0_redoable, cX0_redoable, 1, (some .int), 2)
theorem cal_X0_redoable : zCalV mi_X0_redoable 0 := ⟨⟨zTB_i6 89 (by decide +kernel), zTB_i6 87 (by decide +kernel), zTB_i6 88 (by decide +kernel), zTB_i1 9 (by decide +kernel)⟩, ⟨by decide, by decide, by decide +kernel⟩, by decide⟩
noncomputable def X0_redoable (M : Mem) : Int32 :=
  (M.1 39 4) - (M.1 39 3)
set_option maxRecDepth 100000 in
set_option maxHeartbeats 4000000 in
theorem X0_redoable_ok (G : Gh) (M : Mem) : Mt G mi_X0_redoable [.ref (G.2.2.2 (39))] M ((dI M) (X0_redoable M)) := by
  refine Mt_of (lv := [some (.ref (G.2.2.2 (39)))]) (by decide) rfl (Nat.le_of_ble_eq_true rfl) rfl ?_
  unfold X0_redoable
  refine r_aload_n dX0_redoable_0 rfl ?_
  refine r_getf (v := .int (M.1 39 4)) dX0_redoable_1 fX_39_4 kX0 (by decide) lkf_X0_26 rfl ?_
  refine r_aload_n dX0_redoable_4 rfl ?_
  refine r_getf (v := .int (M.1 39 3)) dX0_redoable_5 fX_39_3 kX0 (by decide) lkf_X0_23 rfl ?_
  refine r_isub dX0_redoable_8 ?_
  exact r_iret (ty := .int) dX0_redoable_9 rfl rfl rfl

theorem dX11_about_0 : decode cX11_about 0 = .ok (.iload_n 1, 1) := by decide +kernel
theorem dX11_about_1 : decode cX11_about 1 = .ok (.tableswitch 186 0 13 #[71, 79, 87, 95, 103, 111, 119, 127, 135, 143, 151, 159, 167, 178], 71) := by decide +kernel
theorem dX11_about_72 : decode cX11_about 72 = .ok (.aload_n 0, 1) := by decide +kernel
theorem dX11_about_73 : decode cX11_about 73 = .ok (.getfield 28, 3) := by decide +kernel
theorem dX11_about_76 : decode cX11_about 76 = .ok (.getfield 109, 3) := by decide +kernel
theorem dX11_about_79 : decode cX11_about 79 = .ok (.ireturn, 1) := by decide +kernel
theorem dX11_about_80 : decode cX11_about 80 = .ok (.aload_n 0, 1) := by decide +kernel
theorem dX11_about_81 : decode cX11_about 81 = .ok (.getfield 28, 3) := by decide +kernel
theorem dX11_about_84 : decode cX11_about 84 = .ok (.getfield 204, 3) := by decide +kernel
theorem dX11_about_87 : decode cX11_about 87 = .ok (.ireturn, 1) := by decide +kernel
theorem dX11_about_88 : decode cX11_about 88 = .ok (.aload_n 0, 1) := by decide +kernel
theorem dX11_about_89 : decode cX11_about 89 = .ok (.getfield 28, 3) := by decide +kernel
theorem dX11_about_92 : decode cX11_about 92 = .ok (.getfield 302, 3) := by decide +kernel
theorem dX11_about_95 : decode cX11_about 95 = .ok (.ireturn, 1) := by decide +kernel
theorem dX11_about_96 : decode cX11_about 96 = .ok (.aload_n 0, 1) := by decide +kernel
theorem dX11_about_97 : decode cX11_about 97 = .ok (.getfield 28, 3) := by decide +kernel
theorem dX11_about_100 : decode cX11_about 100 = .ok (.getfield 305, 3) := by decide +kernel
theorem dX11_about_103 : decode cX11_about 103 = .ok (.ireturn, 1) := by decide +kernel
theorem dX11_about_104 : decode cX11_about 104 = .ok (.aload_n 0, 1) := by decide +kernel
theorem dX11_about_105 : decode cX11_about 105 = .ok (.getfield 37, 3) := by decide +kernel
theorem dX11_about_108 : decode cX11_about 108 = .ok (.invokevirtual 186, 3) := by decide +kernel
theorem dX11_about_111 : decode cX11_about 111 = .ok (.ireturn, 1) := by decide +kernel
theorem dX11_about_112 : decode cX11_about 112 = .ok (.aload_n 0, 1) := by decide +kernel
theorem dX11_about_113 : decode cX11_about 113 = .ok (.getfield 37, 3) := by decide +kernel
theorem dX11_about_116 : decode cX11_about 116 = .ok (.invokevirtual 308, 3) := by decide +kernel
theorem dX11_about_119 : decode cX11_about 119 = .ok (.ireturn, 1) := by decide +kernel
theorem dX11_about_120 : decode cX11_about 120 = .ok (.aload_n 0, 1) := by decide +kernel
theorem dX11_about_121 : decode cX11_about 121 = .ok (.getfield 28, 3) := by decide +kernel
theorem dX11_about_124 : decode cX11_about 124 = .ok (.getfield 311, 3) := by decide +kernel
theorem dX11_about_127 : decode cX11_about 127 = .ok (.ireturn, 1) := by decide +kernel
theorem dX11_about_128 : decode cX11_about 128 = .ok (.aload_n 0, 1) := by decide +kernel
theorem dX11_about_129 : decode cX11_about 129 = .ok (.getfield 46, 3) := by decide +kernel
theorem dX11_about_132 : decode cX11_about 132 = .ok (.invokevirtual 314, 3) := by decide +kernel
theorem dX11_about_135 : decode cX11_about 135 = .ok (.ireturn, 1) := by decide +kernel
theorem dX11_about_136 : decode cX11_about 136 = .ok (.aload_n 0, 1) := by decide +kernel
theorem dX11_about_137 : decode cX11_about 137 = .ok (.getfield 46, 3) := by decide +kernel
theorem dX11_about_140 : decode cX11_about 140 = .ok (.invokevirtual 317, 3) := by decide +kernel
theorem dX11_about_143 : decode cX11_about 143 = .ok (.ireturn, 1) := by decide +kernel
theorem dX11_about_144 : decode cX11_about 144 = .ok (.aload_n 0, 1) := by decide +kernel
theorem dX11_about_145 : decode cX11_about 145 = .ok (.getfield 69, 3) := by decide +kernel
theorem dX11_about_148 : decode cX11_about 148 = .ok (.getfield 320, 3) := by decide +kernel
theorem dX11_about_151 : decode cX11_about 151 = .ok (.ireturn, 1) := by decide +kernel
theorem dX11_about_152 : decode cX11_about 152 = .ok (.aload_n 0, 1) := by decide +kernel
theorem dX11_about_153 : decode cX11_about 153 = .ok (.getfield 69, 3) := by decide +kernel
theorem dX11_about_156 : decode cX11_about 156 = .ok (.getfield 323, 3) := by decide +kernel
theorem dX11_about_159 : decode cX11_about 159 = .ok (.ireturn, 1) := by decide +kernel
theorem dX11_about_160 : decode cX11_about 160 = .ok (.aload_n 0, 1) := by decide +kernel
theorem dX11_about_161 : decode cX11_about 161 = .ok (.getfield 12, 3) := by decide +kernel
theorem dX11_about_164 : decode cX11_about 164 = .ok (.getfield 81, 3) := by decide +kernel
theorem dX11_about_167 : decode cX11_about 167 = .ok (.ireturn, 1) := by decide +kernel
theorem dX11_about_168 : decode cX11_about 168 = .ok (.aload_n 0, 1) := by decide +kernel
theorem dX11_about_169 : decode cX11_about 169 = .ok (.getfield 28, 3) := by decide +kernel
theorem dX11_about_172 : decode cX11_about 172 = .ok (.getfield 326, 3) := by decide +kernel
theorem dX11_about_175 : decode cX11_about 175 = .ok (.getfield 330, 3) := by decide +kernel
theorem dX11_about_178 : decode cX11_about 178 = .ok (.ireturn, 1) := by decide +kernel
theorem dX11_about_179 : decode cX11_about 179 = .ok (.aload_n 0, 1) := by decide +kernel
theorem dX11_about_180 : decode cX11_about 180 = .ok (.getfield 62, 3) := by decide +kernel
theorem dX11_about_183 : decode cX11_about 183 = .ok (.getfield 335, 3) := by decide +kernel
theorem dX11_about_186 : decode cX11_about 186 = .ok (.ireturn, 1) := by decide +kernel
theorem dX11_about_187 : decode cX11_about 187 = .ok (.iconst (-1), 1) := by decide +kernel
theorem dX11_about_188 : decode cX11_about 188 = .ok (.ireturn, 1) := by decide +kernel
abbrev mi_X11_about : MI := (zTX, RX11, yX11_about, cX11_about, 2, (some .int), 4)
theorem cal_X11_about : zCalV mi_X11_about 1 := ⟨⟨zTB_i6 80 (by decide +kernel), zTB_i6 78 (by decide +kernel), zTB_i6 79 (by decide +kernel), zTB_i1 1 (by decide +kernel)⟩, ⟨by decide, by decide, by decide +kernel⟩, by decide⟩
noncomputable def X11_about (x1 : Int32) (M : Mem) : Int32 :=
  if x1 = 0 then
    M.1 23 0
  else
  if x1 = 1 then
    M.1 23 1
  else
  if x1 = 2 then
    M.1 23 2
  else
  if x1 = 3 then
    M.1 23 3
  else
  if x1 = 4 then
    (X9_weekNow 35 M)
  else
  if x1 = 5 then
    (X9_seedNow 35 M)
  else
  if x1 = 6 then
    M.1 23 4
  else
  if x1 = 7 then
    (X0_undoable M)
  else
  if x1 = 8 then
    (X0_redoable M)
  else
  if x1 = 9 then
    M.1 53 7
  else
  if x1 = 10 then
    M.1 53 8
  else
  if x1 = 11 then
    M.1 1 1
  else
  if x1 = 12 then
    M.1 32 3
  else
  if x1 = 13 then
    M.1 51 1
  else
  (-1)
set_option maxRecDepth 100000 in
set_option maxHeartbeats 4000000 in
theorem X11_about_ok (G : Gh) (x1 : Int32) (M : Mem) : Mt G mi_X11_about [.ref (G.2.2.2 (0)), .int x1] M ((dI M) (X11_about x1 M)) := by
  refine Mt_of (lv := [some (.ref (G.2.2.2 (0))), some (.int x1)]) (by decide) rfl (Nat.le_of_ble_eq_true rfl) rfl ?_
  unfold X11_about
  refine r_iload_n dX11_about_0 rfl ?_
  refine r_ite (fun h1 => ?_) (fun h1 => ?_)
  · refine r_tswIn (c := 0) (tgt := 72) dX11_about_1 h1 (by decide) (by decide) rfl rfl ?_
    refine r_aload_n dX11_about_72 rfl ?_
    refine r_getf (v := .ref (G.2.2.2 (23))) dX11_about_73 fX_0_2 kX11 (by decide) lkf_X11_28 rfl ?_
    refine r_getf (v := .int (M.1 23 0)) dX11_about_76 fX_23_0 kX3 (by decide) lkf_X11_109 rfl ?_
    exact r_iret (ty := .int) dX11_about_79 rfl rfl rfl
  refine r_ite (fun h2 => ?_) (fun h2 => ?_)
  · refine r_tswIn (c := 1) (tgt := 80) dX11_about_1 h2 (by decide) (by decide) rfl rfl ?_
    refine r_aload_n dX11_about_80 rfl ?_
    refine r_getf (v := .ref (G.2.2.2 (23))) dX11_about_81 fX_0_2 kX11 (by decide) lkf_X11_28 rfl ?_
    refine r_getf (v := .int (M.1 23 1)) dX11_about_84 fX_23_1 kX3 (by decide) lkf_X11_204 rfl ?_
    exact r_iret (ty := .int) dX11_about_87 rfl rfl rfl
  refine r_ite (fun h3 => ?_) (fun h3 => ?_)
  · refine r_tswIn (c := 2) (tgt := 88) dX11_about_1 h3 (by decide) (by decide) rfl rfl ?_
    refine r_aload_n dX11_about_88 rfl ?_
    refine r_getf (v := .ref (G.2.2.2 (23))) dX11_about_89 fX_0_2 kX11 (by decide) lkf_X11_28 rfl ?_
    refine r_getf (v := .int (M.1 23 2)) dX11_about_92 fX_23_2 kX3 (by decide) lkf_X11_302 rfl ?_
    exact r_iret (ty := .int) dX11_about_95 rfl rfl rfl
  refine r_ite (fun h4 => ?_) (fun h4 => ?_)
  · refine r_tswIn (c := 3) (tgt := 96) dX11_about_1 h4 (by decide) (by decide) rfl rfl ?_
    refine r_aload_n dX11_about_96 rfl ?_
    refine r_getf (v := .ref (G.2.2.2 (23))) dX11_about_97 fX_0_2 kX11 (by decide) lkf_X11_28 rfl ?_
    refine r_getf (v := .int (M.1 23 3)) dX11_about_100 fX_23_3 kX3 (by decide) lkf_X11_305 rfl ?_
    exact r_iret (ty := .int) dX11_about_103 rfl rfl rfl
  refine r_ite (fun h5 => ?_) (fun h5 => ?_)
  · refine r_tswIn (c := 4) (tgt := 104) dX11_about_1 h5 (by decide) (by decide) rfl rfl ?_
    refine r_aload_n dX11_about_104 rfl ?_
    refine r_getf (v := .ref (G.2.2.2 (35))) dX11_about_105 fX_0_3 kX11 (by decide) lkf_X11_37 rfl ?_
    refine c_I (inv_V (mi := mi_X11_about) (b := 35) (rest := []) (X9_weekNow_ok_35 G M) rfl (by decide) dX11_about_108 lkm_X11_186 cal_X9_weekNow cX_35 rfl rfl (Nat.le_of_ble_eq_true rfl) rfl) ?_
    exact r_iret (ty := .int) dX11_about_111 rfl rfl rfl
  refine r_ite (fun h6 => ?_) (fun h6 => ?_)
  · refine r_tswIn (c := 5) (tgt := 112) dX11_about_1 h6 (by decide) (by decide) rfl rfl ?_
    refine r_aload_n dX11_about_112 rfl ?_
    refine r_getf (v := .ref (G.2.2.2 (35))) dX11_about_113 fX_0_3 kX11 (by decide) lkf_X11_37 rfl ?_
    refine c_I (inv_V (mi := mi_X11_about) (b := 35) (rest := []) (X9_seedNow_ok_35 G M) rfl (by decide) dX11_about_116 lkm_X11_308 cal_X9_seedNow cX_35 rfl rfl (Nat.le_of_ble_eq_true rfl) rfl) ?_
    exact r_iret (ty := .int) dX11_about_119 rfl rfl rfl
  refine r_ite (fun h7 => ?_) (fun h7 => ?_)
  · refine r_tswIn (c := 6) (tgt := 120) dX11_about_1 h7 (by decide) (by decide) rfl rfl ?_
    refine r_aload_n dX11_about_120 rfl ?_
    refine r_getf (v := .ref (G.2.2.2 (23))) dX11_about_121 fX_0_2 kX11 (by decide) lkf_X11_28 rfl ?_
    refine r_getf (v := .int (M.1 23 4)) dX11_about_124 fX_23_4 kX3 (by decide) lkf_X11_311 rfl ?_
    exact r_iret (ty := .int) dX11_about_127 rfl rfl rfl
  refine r_ite (fun h8 => ?_) (fun h8 => ?_)
  · refine r_tswIn (c := 7) (tgt := 128) dX11_about_1 h8 (by decide) (by decide) rfl rfl ?_
    refine r_aload_n dX11_about_128 rfl ?_
    refine r_getf (v := .ref (G.2.2.2 (39))) dX11_about_129 fX_0_4 kX11 (by decide) lkf_X11_46 rfl ?_
    refine c_I (inv_V (mi := mi_X11_about) (b := 39) (rest := []) (X0_undoable_ok G M) rfl (by decide) dX11_about_132 lkm_X11_314 cal_X0_undoable cX_39 rfl rfl (Nat.le_of_ble_eq_true rfl) rfl) ?_
    exact r_iret (ty := .int) dX11_about_135 rfl rfl rfl
  refine r_ite (fun h9 => ?_) (fun h9 => ?_)
  · refine r_tswIn (c := 8) (tgt := 136) dX11_about_1 h9 (by decide) (by decide) rfl rfl ?_
    refine r_aload_n dX11_about_136 rfl ?_
    refine r_getf (v := .ref (G.2.2.2 (39))) dX11_about_137 fX_0_4 kX11 (by decide) lkf_X11_46 rfl ?_
    refine c_I (inv_V (mi := mi_X11_about) (b := 39) (rest := []) (X0_redoable_ok G M) rfl (by decide) dX11_about_140 lkm_X11_317 cal_X0_redoable cX_39 rfl rfl (Nat.le_of_ble_eq_true rfl) rfl) ?_
    exact r_iret (ty := .int) dX11_about_143 rfl rfl rfl
  refine r_ite (fun h10 => ?_) (fun h10 => ?_)
  · refine r_tswIn (c := 9) (tgt := 144) dX11_about_1 h10 (by decide) (by decide) rfl rfl ?_
    refine r_aload_n dX11_about_144 rfl ?_
    refine r_getf (v := .ref (G.2.2.2 (53))) dX11_about_145 fX_0_7 kX11 (by decide) lkf_X11_69 rfl ?_
    refine r_getf (v := .int (M.1 53 7)) dX11_about_148 fX_53_7 kX8 (by decide) lkf_X11_320 rfl ?_
    exact r_iret (ty := .int) dX11_about_151 rfl rfl rfl
  refine r_ite (fun h11 => ?_) (fun h11 => ?_)
  · refine r_tswIn (c := 10) (tgt := 152) dX11_about_1 h11 (by decide) (by decide) rfl rfl ?_
    refine r_aload_n dX11_about_152 rfl ?_
    refine r_getf (v := .ref (G.2.2.2 (53))) dX11_about_153 fX_0_7 kX11 (by decide) lkf_X11_69 rfl ?_
    refine r_getf (v := .int (M.1 53 8)) dX11_about_156 fX_53_8 kX8 (by decide) lkf_X11_323 rfl ?_
    exact r_iret (ty := .int) dX11_about_159 rfl rfl rfl
  refine r_ite (fun h12 => ?_) (fun h12 => ?_)
  · refine r_tswIn (c := 11) (tgt := 160) dX11_about_1 h12 (by decide) (by decide) rfl rfl ?_
    refine r_aload_n dX11_about_160 rfl ?_
    refine r_getf (v := .ref (G.2.2.2 (1))) dX11_about_161 fX_0_0 kX11 (by decide) lkf_X11_12 rfl ?_
    refine r_getf (v := .int (M.1 1 1)) dX11_about_164 fX_1_1 kX10 (by decide) lkf_X11_81 rfl ?_
    exact r_iret (ty := .int) dX11_about_167 rfl rfl rfl
  refine r_ite (fun h13 => ?_) (fun h13 => ?_)
  · refine r_tswIn (c := 12) (tgt := 168) dX11_about_1 h13 (by decide) (by decide) rfl rfl ?_
    refine r_aload_n dX11_about_168 rfl ?_
    refine r_getf (v := .ref (G.2.2.2 (23))) dX11_about_169 fX_0_2 kX11 (by decide) lkf_X11_28 rfl ?_
    refine r_getf (v := .ref (G.2.2.2 (32))) dX11_about_172 fX_23_14 kX3 (by decide) lkf_X11_326 rfl ?_
    refine r_getf (v := .int (M.1 32 3)) dX11_about_175 fX_32_3 kX1 (by decide) lkf_X11_330 rfl ?_
    exact r_iret (ty := .int) dX11_about_178 rfl rfl rfl
  refine r_ite (fun h14 => ?_) (fun h14 => ?_)
  · refine r_tswIn (c := 13) (tgt := 179) dX11_about_1 h14 (by decide) (by decide) rfl rfl ?_
    refine r_aload_n dX11_about_179 rfl ?_
    refine r_getf (v := .ref (G.2.2.2 (51))) dX11_about_180 fX_0_6 kX11 (by decide) lkf_X11_62 rfl ?_
    refine r_getf (v := .int (M.1 51 1)) dX11_about_183 fX_51_1 kX7 (by decide) lkf_X11_335 rfl ?_
    exact r_iret (ty := .int) dX11_about_186 rfl rfl rfl
  refine r_tswD (cs := [0, 1, 2, 3, 4, 5, 6, 7, 8, 9, 10, 11, 12, 13]) (tgt := 187) dX11_about_1 (by decide) (fun c hc => by simp only [List.mem_cons, List.not_mem_nil, or_false] at hc; rcases hc with rfl | rfl | rfl | rfl | rfl | rfl | rfl | rfl | rfl | rfl | rfl | rfl | rfl | rfl <;> assumption) rfl ?_
  refine r_iconst (x := (-1)) dX11_about_187 rfl ?_
  exact r_iret (ty := .int) dX11_about_188 rfl rfl rfl

