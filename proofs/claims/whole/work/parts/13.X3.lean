theorem dX3_hasKind_0 : decode cX3_hasKind 0 = .ok (.iload_n 1, 1) := by decide +kernel
theorem dX3_hasKind_1 : decode cX3_hasKind 1 = .ok (.ifCond .lt 15, 3) := by decide +kernel
theorem dX3_hasKind_4 : decode cX3_hasKind 4 = .ok (.iload_n 1, 1) := by decide +kernel
theorem dX3_hasKind_5 : decode cX3_hasKind 5 = .ok (.aload_n 0, 1) := by decide +kernel
theorem dX3_hasKind_6 : decode cX3_hasKind 6 = .ok (.getfield 50, 3) := by decide +kernel
theorem dX3_hasKind_9 : decode cX3_hasKind 9 = .ok (.if_icmp .ge 7, 3) := by decide +kernel
theorem dX3_hasKind_12 : decode cX3_hasKind 12 = .ok (.iconst 1, 1) := by decide +kernel
theorem dX3_hasKind_13 : decode cX3_hasKind 13 = .ok (.goto 4, 3) := by decide +kernel
theorem dX3_hasKind_16 : decode cX3_hasKind 16 = .ok (.iconst 0, 1) := by decide +kernel
theorem dX3_hasKind_17 : decode cX3_hasKind 17 = .ok (.ireturn, 1) := by decide +kernel
abbrev mi_X3_hasKind : MI := (zTX, RX3, yX3_hasKind, cX3_hasKind, 2, (some .boolean), 2)
theorem cal_X3_hasKind : zCalV mi_X3_hasKind 1 := ⟨⟨zTB_i4 140 (by decide +kernel), zTB_i4 138 (by decide +kernel), zTB_i4 139 (by decide +kernel), zTB_i1 4 (by decide +kernel)⟩, ⟨by decide, by decide, by decide +kernel⟩, by decide⟩
noncomputable def X3_hasKind (o0 : Nat) (x1 : Int32) (M : Mem) : Bool :=
  if x1 < 0 then
    false
  else
  if (M.1 o0 1) ≤ x1 then
    false
  else
  true
set_option maxRecDepth 100000 in
set_option maxHeartbeats 4000000 in
theorem X3_hasKind_ok_4 (G : Gh) (x1 : Int32) (M : Mem) : Mt G mi_X3_hasKind [.ref (G.2.2.2 (4)), .int x1] M ((dZ M) (X3_hasKind 4 x1 M)) := by
  refine Mt_of (lv := [some (.ref (G.2.2.2 (4))), some (.int x1)]) (by decide) rfl (Nat.le_of_ble_eq_true rfl) rfl ?_
  unfold X3_hasKind
  refine r_iload_n dX3_hasKind_0 rfl ?_
  refine r_if_lt (tgt := 16) dX3_hasKind_1 rfl (fun h1 => ?_) (fun h1 => ?_)
  · refine r_iconst (x := 0) dX3_hasKind_16 rfl ?_
    exact r_iret (ty := .boolean) dX3_hasKind_17 rfl rfl rfl
  refine r_iload_n dX3_hasKind_4 rfl ?_
  refine r_aload_n dX3_hasKind_5 rfl ?_
  refine r_getf (v := .int (M.1 4 1)) dX3_hasKind_6 fX_4_1 kX3 (by decide) lkf_X3_50 rfl ?_
  refine r_icmp_ge (tgt := 16) dX3_hasKind_9 rfl (fun h2 => ?_) (fun h2 => ?_)
  · refine r_iconst (x := 0) dX3_hasKind_16 rfl ?_
    exact r_iret (ty := .boolean) dX3_hasKind_17 rfl rfl rfl
  refine r_iconst (x := 1) dX3_hasKind_12 rfl ?_
  refine r_goto (tgt := 17) dX3_hasKind_13 rfl ?_
  exact r_iret (ty := .boolean) dX3_hasKind_17 rfl rfl rfl
set_option maxRecDepth 100000 in
set_option maxHeartbeats 4000000 in
theorem X3_hasKind_ok_23 (G : Gh) (x1 : Int32) (M : Mem) : Mt G mi_X3_hasKind [.ref (G.2.2.2 (23)), .int x1] M ((dZ M) (X3_hasKind 23 x1 M)) := by
  refine Mt_of (lv := [some (.ref (G.2.2.2 (23))), some (.int x1)]) (by decide) rfl (Nat.le_of_ble_eq_true rfl) rfl ?_
  unfold X3_hasKind
  refine r_iload_n dX3_hasKind_0 rfl ?_
  refine r_if_lt (tgt := 16) dX3_hasKind_1 rfl (fun h1 => ?_) (fun h1 => ?_)
  · refine r_iconst (x := 0) dX3_hasKind_16 rfl ?_
    exact r_iret (ty := .boolean) dX3_hasKind_17 rfl rfl rfl
  refine r_iload_n dX3_hasKind_4 rfl ?_
  refine r_aload_n dX3_hasKind_5 rfl ?_
  refine r_getf (v := .int (M.1 23 1)) dX3_hasKind_6 fX_23_1 kX3 (by decide) lkf_X3_50 rfl ?_
  refine r_icmp_ge (tgt := 16) dX3_hasKind_9 rfl (fun h2 => ?_) (fun h2 => ?_)
  · refine r_iconst (x := 0) dX3_hasKind_16 rfl ?_
    exact r_iret (ty := .boolean) dX3_hasKind_17 rfl rfl rfl
  refine r_iconst (x := 1) dX3_hasKind_12 rfl ?_
  refine r_goto (tgt := 17) dX3_hasKind_13 rfl ?_
  exact r_iret (ty := .boolean) dX3_hasKind_17 rfl rfl rfl

theorem dX3_hasPair_0 : decode cX3_hasPair 0 = .ok (.aload_n 0, 1) := by decide +kernel
theorem dX3_hasPair_1 : decode cX3_hasPair 1 = .ok (.iload_n 1, 1) := by decide +kernel
theorem dX3_hasPair_2 : decode cX3_hasPair 2 = .ok (.invokevirtual 77, 3) := by decide +kernel
theorem dX3_hasPair_5 : decode cX3_hasPair 5 = .ok (.ifCond .eq 15, 3) := by decide +kernel
theorem dX3_hasPair_8 : decode cX3_hasPair 8 = .ok (.aload_n 0, 1) := by decide +kernel
theorem dX3_hasPair_9 : decode cX3_hasPair 9 = .ok (.iload_n 2, 1) := by decide +kernel
theorem dX3_hasPair_10 : decode cX3_hasPair 10 = .ok (.invokevirtual 81, 3) := by decide +kernel
theorem dX3_hasPair_13 : decode cX3_hasPair 13 = .ok (.ifCond .eq 7, 3) := by decide +kernel
theorem dX3_hasPair_16 : decode cX3_hasPair 16 = .ok (.iconst 1, 1) := by decide +kernel
theorem dX3_hasPair_17 : decode cX3_hasPair 17 = .ok (.goto 4, 3) := by decide +kernel
theorem dX3_hasPair_20 : decode cX3_hasPair 20 = .ok (.iconst 0, 1) := by decide +kernel
theorem dX3_hasPair_21 : decode cX3_hasPair 21 = .ok (.ireturn, 1) := by decide +kernel
abbrev mi_X3_hasPair : MI := (zTX, RX3, yX3_hasPair, cX3_hasPair, 3, (some .boolean), 3)
theorem cal_X3_hasPair : zCalV mi_X3_hasPair 2 := ⟨⟨zTB_i4 135 (by decide +kernel), zTB_i4 133 (by decide +kernel), zTB_i4 134 (by decide +kernel), zTB_i1 4 (by decide +kernel)⟩, ⟨by decide, by decide, by decide +kernel⟩, by decide⟩
noncomputable def X3_hasPair (o0 : Nat) (x1 : Int32) (x2 : Int32) (M : Mem) : Bool :=
  if (X3_hasMan o0 x1 M) = true then
    if (X3_hasKind o0 x2 M) = true then
      true
    else
    false
  else
  false
set_option maxRecDepth 100000 in
set_option maxHeartbeats 4000000 in
theorem X3_hasPair_ok_4 (G : Gh) (x1 : Int32) (x2 : Int32) (M : Mem) : Mt G mi_X3_hasPair [.ref (G.2.2.2 (4)), .int x1, .int x2] M ((dZ M) (X3_hasPair 4 x1 x2 M)) := by
  refine Mt_of (lv := [some (.ref (G.2.2.2 (4))), some (.int x1), some (.int x2)]) (by decide) rfl (Nat.le_of_ble_eq_true rfl) rfl ?_
  unfold X3_hasPair
  refine r_aload_n dX3_hasPair_0 rfl ?_
  refine r_iload_n dX3_hasPair_1 rfl ?_
  refine c_Z (inv_V (mi := mi_X3_hasPair) (b := 4) (rest := []) (X3_hasMan_ok_4 G x1 M) rfl (by decide) dX3_hasPair_2 lkm_X3_77 cal_X3_hasMan cX_4 rfl rfl (Nat.le_of_ble_eq_true rfl) rfl) ?_
  refine r_ifz_eq (tgt := 20) dX3_hasPair_5 rfl (fun h1 => ?_) (fun h1 => ?_)
  · refine r_aload_n dX3_hasPair_8 rfl ?_
    refine r_iload_n dX3_hasPair_9 rfl ?_
    refine c_Z (inv_V (mi := mi_X3_hasPair) (b := 4) (rest := []) (X3_hasKind_ok_4 G x2 M) rfl (by decide) dX3_hasPair_10 lkm_X3_81 cal_X3_hasKind cX_4 rfl rfl (Nat.le_of_ble_eq_true rfl) rfl) ?_
    refine r_ifz_eq (tgt := 20) dX3_hasPair_13 rfl (fun h2 => ?_) (fun h2 => ?_)
    · refine r_iconst (x := 1) dX3_hasPair_16 rfl ?_
      refine r_goto (tgt := 21) dX3_hasPair_17 rfl ?_
      exact r_iret (ty := .boolean) dX3_hasPair_21 rfl rfl rfl
    refine r_iconst (x := 0) dX3_hasPair_20 rfl ?_
    exact r_iret (ty := .boolean) dX3_hasPair_21 rfl rfl rfl
  refine r_iconst (x := 0) dX3_hasPair_20 rfl ?_
  exact r_iret (ty := .boolean) dX3_hasPair_21 rfl rfl rfl
set_option maxRecDepth 100000 in
set_option maxHeartbeats 4000000 in
theorem X3_hasPair_ok_23 (G : Gh) (x1 : Int32) (x2 : Int32) (M : Mem) : Mt G mi_X3_hasPair [.ref (G.2.2.2 (23)), .int x1, .int x2] M ((dZ M) (X3_hasPair 23 x1 x2 M)) := by
  refine Mt_of (lv := [some (.ref (G.2.2.2 (23))), some (.int x1), some (.int x2)]) (by decide) rfl (Nat.le_of_ble_eq_true rfl) rfl ?_
  unfold X3_hasPair
  refine r_aload_n dX3_hasPair_0 rfl ?_
  refine r_iload_n dX3_hasPair_1 rfl ?_
  refine c_Z (inv_V (mi := mi_X3_hasPair) (b := 23) (rest := []) (X3_hasMan_ok_23 G x1 M) rfl (by decide) dX3_hasPair_2 lkm_X3_77 cal_X3_hasMan cX_23 rfl rfl (Nat.le_of_ble_eq_true rfl) rfl) ?_
  refine r_ifz_eq (tgt := 20) dX3_hasPair_5 rfl (fun h1 => ?_) (fun h1 => ?_)
  · refine r_aload_n dX3_hasPair_8 rfl ?_
    refine r_iload_n dX3_hasPair_9 rfl ?_
    refine c_Z (inv_V (mi := mi_X3_hasPair) (b := 23) (rest := []) (X3_hasKind_ok_23 G x2 M) rfl (by decide) dX3_hasPair_10 lkm_X3_81 cal_X3_hasKind cX_23 rfl rfl (Nat.le_of_ble_eq_true rfl) rfl) ?_
    refine r_ifz_eq (tgt := 20) dX3_hasPair_13 rfl (fun h2 => ?_) (fun h2 => ?_)
    · refine r_iconst (x := 1) dX3_hasPair_16 rfl ?_
      refine r_goto (tgt := 21) dX3_hasPair_17 rfl ?_
      exact r_iret (ty := .boolean) dX3_hasPair_21 rfl rfl rfl
    refine r_iconst (x := 0) dX3_hasPair_20 rfl ?_
    exact r_iret (ty := .boolean) dX3_hasPair_21 rfl rfl rfl
  refine r_iconst (x := 0) dX3_hasPair_20 rfl ?_
  exact r_iret (ty := .boolean) dX3_hasPair_21 rfl rfl rfl

theorem dX11_purse_0 : decode cX11_purse 0 = .ok (.aload_n 0, 1) := by decide +kernel
theorem dX11_purse_1 : decode cX11_purse 1 = .ok (.getfield 28, 3) := by decide +kernel
theorem dX11_purse_4 : decode cX11_purse 4 = .ok (.iload_n 1, 1) := by decide +kernel
theorem dX11_purse_5 : decode cX11_purse 5 = .ok (.iload_n 2, 1) := by decide +kernel
theorem dX11_purse_6 : decode cX11_purse 6 = .ok (.invokevirtual 150, 3) := by decide +kernel
theorem dX11_purse_9 : decode cX11_purse 9 = .ok (.ifCond .eq 15, 3) := by decide +kernel
theorem dX11_purse_12 : decode cX11_purse 12 = .ok (.aload_n 0, 1) := by decide +kernel
theorem dX11_purse_13 : decode cX11_purse 13 = .ok (.getfield 37, 3) := by decide +kernel
theorem dX11_purse_16 : decode cX11_purse 16 = .ok (.iload_n 1, 1) := by decide +kernel
theorem dX11_purse_17 : decode cX11_purse 17 = .ok (.iload_n 2, 1) := by decide +kernel
theorem dX11_purse_18 : decode cX11_purse 18 = .ok (.invokevirtual 154, 3) := by decide +kernel
theorem dX11_purse_21 : decode cX11_purse 21 = .ok (.goto 4, 3) := by decide +kernel
theorem dX11_purse_24 : decode cX11_purse 24 = .ok (.iconst (-1), 1) := by decide +kernel
theorem dX11_purse_25 : decode cX11_purse 25 = .ok (.ireturn, 1) := by decide +kernel
abbrev mi_X11_purse : MI := (zTX, RX11, yX11_purse, cX11_purse, 3, (some .int), 4)
theorem cal_X11_purse : zCalV mi_X11_purse 2 := ⟨⟨zTB_i4 131 (by decide +kernel), zTB_i4 129 (by decide +kernel), zTB_i4 130 (by decide +kernel), zTB_i1 1 (by decide +kernel)⟩, ⟨by decide, by decide, by decide +kernel⟩, by decide⟩
noncomputable def X11_purse (x1 : Int32) (x2 : Int32) (M : Mem) : Int32 :=
  if (X3_hasPair 23 x1 x2 M) = true then
    (X9_purseOf 35 x1 x2 M)
  else
  (-1)
set_option maxRecDepth 100000 in
set_option maxHeartbeats 4000000 in
theorem X11_purse_ok (G : Gh) (x1 : Int32) (x2 : Int32) (M : Mem) : Mt G mi_X11_purse [.ref (G.2.2.2 (0)), .int x1, .int x2] M ((dI M) (X11_purse x1 x2 M)) := by
  refine Mt_of (lv := [some (.ref (G.2.2.2 (0))), some (.int x1), some (.int x2)]) (by decide) rfl (Nat.le_of_ble_eq_true rfl) rfl ?_
  unfold X11_purse
  refine r_aload_n dX11_purse_0 rfl ?_
  refine r_getf (v := .ref (G.2.2.2 (23))) dX11_purse_1 fX_0_2 kX11 (by decide) lkf_X11_28 rfl ?_
  refine r_iload_n dX11_purse_4 rfl ?_
  refine r_iload_n dX11_purse_5 rfl ?_
  refine c_Z (inv_V (mi := mi_X11_purse) (b := 23) (rest := []) (X3_hasPair_ok_23 G x1 x2 M) rfl (by decide) dX11_purse_6 lkm_X11_150 cal_X3_hasPair cX_23 rfl rfl (Nat.le_of_ble_eq_true rfl) rfl) ?_
  refine r_ifz_eq (tgt := 24) dX11_purse_9 rfl (fun h1 => ?_) (fun h1 => ?_)
  · refine r_aload_n dX11_purse_12 rfl ?_
    refine r_getf (v := .ref (G.2.2.2 (35))) dX11_purse_13 fX_0_3 kX11 (by decide) lkf_X11_37 rfl ?_
    refine r_iload_n dX11_purse_16 rfl ?_
    refine r_iload_n dX11_purse_17 rfl ?_
    refine c_I (inv_V (mi := mi_X11_purse) (b := 35) (rest := []) (X9_purseOf_ok_35 G x1 x2 M) rfl (by decide) dX11_purse_18 lkm_X11_154 cal_X9_purseOf cX_35 rfl rfl (Nat.le_of_ble_eq_true rfl) rfl) ?_
    refine r_goto (tgt := 25) dX11_purse_21 rfl ?_
    exact r_iret (ty := .int) dX11_purse_25 rfl rfl rfl
  refine r_iconst (x := (-1)) dX11_purse_24 rfl ?_
  exact r_iret (ty := .int) dX11_purse_25 rfl rfl rfl

theorem dX11_over_0 : decode cX11_over 0 = .ok (.aload_n 0, 1) := by decide +kernel
theorem dX11_over_1 : decode cX11_over 1 = .ok (.getfield 28, 3) := by decide +kernel
theorem dX11_over_4 : decode cX11_over 4 = .ok (.iload_n 1, 1) := by decide +kernel
theorem dX11_over_5 : decode cX11_over 5 = .ok (.iload_n 2, 1) := by decide +kernel
theorem dX11_over_6 : decode cX11_over 6 = .ok (.invokevirtual 150, 3) := by decide +kernel
theorem dX11_over_9 : decode cX11_over 9 = .ok (.ifCond .eq 15, 3) := by decide +kernel
theorem dX11_over_12 : decode cX11_over 12 = .ok (.aload_n 0, 1) := by decide +kernel
theorem dX11_over_13 : decode cX11_over 13 = .ok (.getfield 37, 3) := by decide +kernel
theorem dX11_over_16 : decode cX11_over 16 = .ok (.iload_n 1, 1) := by decide +kernel
theorem dX11_over_17 : decode cX11_over 17 = .ok (.iload_n 2, 1) := by decide +kernel
theorem dX11_over_18 : decode cX11_over 18 = .ok (.invokevirtual 158, 3) := by decide +kernel
theorem dX11_over_21 : decode cX11_over 21 = .ok (.goto 4, 3) := by decide +kernel
theorem dX11_over_24 : decode cX11_over 24 = .ok (.iconst (-1), 1) := by decide +kernel
theorem dX11_over_25 : decode cX11_over 25 = .ok (.ireturn, 1) := by decide +kernel
abbrev mi_X11_over : MI := (zTX, RX11, yX11_over, cX11_over, 3, (some .int), 4)
theorem cal_X11_over : zCalV mi_X11_over 2 := ⟨⟨zTB_i4 145 (by decide +kernel), zTB_i4 143 (by decide +kernel), zTB_i4 144 (by decide +kernel), zTB_i1 1 (by decide +kernel)⟩, ⟨by decide, by decide, by decide +kernel⟩, by decide⟩
noncomputable def X11_over (x1 : Int32) (x2 : Int32) (M : Mem) : Int32 :=
  if (X3_hasPair 23 x1 x2 M) = true then
    (X9_overAt 35 x1 x2 M)
  else
  (-1)
set_option maxRecDepth 100000 in
set_option maxHeartbeats 4000000 in
theorem X11_over_ok (G : Gh) (x1 : Int32) (x2 : Int32) (M : Mem) : Mt G mi_X11_over [.ref (G.2.2.2 (0)), .int x1, .int x2] M ((dI M) (X11_over x1 x2 M)) := by
  refine Mt_of (lv := [some (.ref (G.2.2.2 (0))), some (.int x1), some (.int x2)]) (by decide) rfl (Nat.le_of_ble_eq_true rfl) rfl ?_
  unfold X11_over
  refine r_aload_n dX11_over_0 rfl ?_
  refine r_getf (v := .ref (G.2.2.2 (23))) dX11_over_1 fX_0_2 kX11 (by decide) lkf_X11_28 rfl ?_
  refine r_iload_n dX11_over_4 rfl ?_
  refine r_iload_n dX11_over_5 rfl ?_
  refine c_Z (inv_V (mi := mi_X11_over) (b := 23) (rest := []) (X3_hasPair_ok_23 G x1 x2 M) rfl (by decide) dX11_over_6 lkm_X11_150 cal_X3_hasPair cX_23 rfl rfl (Nat.le_of_ble_eq_true rfl) rfl) ?_
  refine r_ifz_eq (tgt := 24) dX11_over_9 rfl (fun h1 => ?_) (fun h1 => ?_)
  · refine r_aload_n dX11_over_12 rfl ?_
    refine r_getf (v := .ref (G.2.2.2 (35))) dX11_over_13 fX_0_3 kX11 (by decide) lkf_X11_37 rfl ?_
    refine r_iload_n dX11_over_16 rfl ?_
    refine r_iload_n dX11_over_17 rfl ?_
    refine c_I (inv_V (mi := mi_X11_over) (b := 35) (rest := []) (X9_overAt_ok_35 G x1 x2 M) rfl (by decide) dX11_over_18 lkm_X11_158 cal_X9_overAt cX_35 rfl rfl (Nat.le_of_ble_eq_true rfl) rfl) ?_
    refine r_goto (tgt := 25) dX11_over_21 rfl ?_
    exact r_iret (ty := .int) dX11_over_25 rfl rfl rfl
  refine r_iconst (x := (-1)) dX11_over_24 rfl ?_
  exact r_iret (ty := .int) dX11_over_25 rfl rfl rfl

theorem dX11_pay_0 : decode cX11_pay 0 = .ok (.aload_n 0, 1) := by decide +kernel
theorem dX11_pay_1 : decode cX11_pay 1 = .ok (.getfield 28, 3) := by decide +kernel
theorem dX11_pay_4 : decode cX11_pay 4 = .ok (.iload_n 1, 1) := by decide +kernel
theorem dX11_pay_5 : decode cX11_pay 5 = .ok (.iload_n 2, 1) := by decide +kernel
theorem dX11_pay_6 : decode cX11_pay 6 = .ok (.invokevirtual 150, 3) := by decide +kernel
theorem dX11_pay_9 : decode cX11_pay 9 = .ok (.ifCond .eq 15, 3) := by decide +kernel
theorem dX11_pay_12 : decode cX11_pay 12 = .ok (.aload_n 0, 1) := by decide +kernel
theorem dX11_pay_13 : decode cX11_pay 13 = .ok (.getfield 28, 3) := by decide +kernel
theorem dX11_pay_16 : decode cX11_pay 16 = .ok (.iload_n 1, 1) := by decide +kernel
theorem dX11_pay_17 : decode cX11_pay 17 = .ok (.iload_n 2, 1) := by decide +kernel
theorem dX11_pay_18 : decode cX11_pay 18 = .ok (.invokevirtual 161, 3) := by decide +kernel
theorem dX11_pay_21 : decode cX11_pay 21 = .ok (.goto 4, 3) := by decide +kernel
theorem dX11_pay_24 : decode cX11_pay 24 = .ok (.iconst (-1), 1) := by decide +kernel
theorem dX11_pay_25 : decode cX11_pay 25 = .ok (.ireturn, 1) := by decide +kernel
abbrev mi_X11_pay : MI := (zTX, RX11, yX11_pay, cX11_pay, 3, (some .int), 4)
theorem cal_X11_pay : zCalV mi_X11_pay 2 := ⟨⟨zTB_i4 150 (by decide +kernel), zTB_i4 148 (by decide +kernel), zTB_i4 149 (by decide +kernel), zTB_i1 1 (by decide +kernel)⟩, ⟨by decide, by decide, by decide +kernel⟩, by decide⟩
noncomputable def X11_pay (x1 : Int32) (x2 : Int32) (M : Mem) : Int32 :=
  if (X3_hasPair 23 x1 x2 M) = true then
    (X3_wageOf 23 x1 x2 M)
  else
  (-1)
set_option maxRecDepth 100000 in
set_option maxHeartbeats 4000000 in
theorem X11_pay_ok (G : Gh) (x1 : Int32) (x2 : Int32) (M : Mem) : Mt G mi_X11_pay [.ref (G.2.2.2 (0)), .int x1, .int x2] M ((dI M) (X11_pay x1 x2 M)) := by
  refine Mt_of (lv := [some (.ref (G.2.2.2 (0))), some (.int x1), some (.int x2)]) (by decide) rfl (Nat.le_of_ble_eq_true rfl) rfl ?_
  unfold X11_pay
  refine r_aload_n dX11_pay_0 rfl ?_
  refine r_getf (v := .ref (G.2.2.2 (23))) dX11_pay_1 fX_0_2 kX11 (by decide) lkf_X11_28 rfl ?_
  refine r_iload_n dX11_pay_4 rfl ?_
  refine r_iload_n dX11_pay_5 rfl ?_
  refine c_Z (inv_V (mi := mi_X11_pay) (b := 23) (rest := []) (X3_hasPair_ok_23 G x1 x2 M) rfl (by decide) dX11_pay_6 lkm_X11_150 cal_X3_hasPair cX_23 rfl rfl (Nat.le_of_ble_eq_true rfl) rfl) ?_
  refine r_ifz_eq (tgt := 24) dX11_pay_9 rfl (fun h1 => ?_) (fun h1 => ?_)
  · refine r_aload_n dX11_pay_12 rfl ?_
    refine r_getf (v := .ref (G.2.2.2 (23))) dX11_pay_13 fX_0_2 kX11 (by decide) lkf_X11_28 rfl ?_
    refine r_iload_n dX11_pay_16 rfl ?_
    refine r_iload_n dX11_pay_17 rfl ?_
    refine c_I (inv_V (mi := mi_X11_pay) (b := 23) (rest := []) (X3_wageOf_ok_23 G x1 x2 M) rfl (by decide) dX11_pay_18 lkm_X11_161 cal_X3_wageOf cX_23 rfl rfl (Nat.le_of_ble_eq_true rfl) rfl) ?_
    refine r_goto (tgt := 25) dX11_pay_21 rfl ?_
    exact r_iret (ty := .int) dX11_pay_25 rfl rfl rfl
  refine r_iconst (x := (-1)) dX11_pay_24 rfl ?_
  exact r_iret (ty := .int) dX11_pay_25 rfl rfl rfl

theorem dX11_all_0 : decode cX11_all 0 = .ok (.aload_n 0, 1) := by decide +kernel
theorem dX11_all_1 : decode cX11_all 1 = .ok (.getfield 28, 3) := by decide +kernel
theorem dX11_all_4 : decode cX11_all 4 = .ok (.iload_n 1, 1) := by decide +kernel
theorem dX11_all_5 : decode cX11_all 5 = .ok (.invokevirtual 164, 3) := by decide +kernel
theorem dX11_all_8 : decode cX11_all 8 = .ok (.ifCond .eq 12, 3) := by decide +kernel
theorem dX11_all_11 : decode cX11_all 11 = .ok (.iload_n 2, 1) := by decide +kernel
theorem dX11_all_12 : decode cX11_all 12 = .ok (.ifCond .lt 8, 3) := by decide +kernel
theorem dX11_all_15 : decode cX11_all 15 = .ok (.iload_n 2, 1) := by decide +kernel
theorem dX11_all_16 : decode cX11_all 16 = .ok (.iconst 1, 1) := by decide +kernel
theorem dX11_all_17 : decode cX11_all 17 = .ok (.if_icmp .le 5, 3) := by decide +kernel
theorem dX11_all_20 : decode cX11_all 20 = .ok (.iconst (-1), 1) := by decide +kernel
theorem dX11_all_21 : decode cX11_all 21 = .ok (.ireturn, 1) := by decide +kernel
theorem dX11_all_22 : decode cX11_all 22 = .ok (.iconst 0, 1) := by decide +kernel
theorem dX11_all_23 : decode cX11_all 23 = .ok (.istore_n 3, 1) := by decide +kernel
theorem dX11_all_24 : decode cX11_all 24 = .ok (.iconst 0, 1) := by decide +kernel
theorem dX11_all_25 : decode cX11_all 25 = .ok (.istore 4, 2) := by decide +kernel
theorem dX11_all_27 : decode cX11_all 27 = .ok (.iload 4, 2) := by decide +kernel
theorem dX11_all_29 : decode cX11_all 29 = .ok (.aload_n 0, 1) := by decide +kernel
theorem dX11_all_30 : decode cX11_all 30 = .ok (.getfield 28, 3) := by decide +kernel
theorem dX11_all_33 : decode cX11_all 33 = .ok (.getfield 109, 3) := by decide +kernel
theorem dX11_all_36 : decode cX11_all 36 = .ok (.if_icmp .ge 39, 3) := by decide +kernel
theorem dX11_all_39 : decode cX11_all 39 = .ok (.iload_n 3, 1) := by decide +kernel
theorem dX11_all_40 : decode cX11_all 40 = .ok (.iload_n 2, 1) := by decide +kernel
theorem dX11_all_41 : decode cX11_all 41 = .ok (.ifCond .ne 16, 3) := by decide +kernel
theorem dX11_all_44 : decode cX11_all 44 = .ok (.aload_n 0, 1) := by decide +kernel
theorem dX11_all_45 : decode cX11_all 45 = .ok (.getfield 37, 3) := by decide +kernel
theorem dX11_all_48 : decode cX11_all 48 = .ok (.iload 4, 2) := by decide +kernel
theorem dX11_all_50 : decode cX11_all 50 = .ok (.iload_n 1, 1) := by decide +kernel
theorem dX11_all_51 : decode cX11_all 51 = .ok (.invokevirtual 154, 3) := by decide +kernel
theorem dX11_all_54 : decode cX11_all 54 = .ok (.goto 13, 3) := by decide +kernel
theorem dX11_all_57 : decode cX11_all 57 = .ok (.aload_n 0, 1) := by decide +kernel
theorem dX11_all_58 : decode cX11_all 58 = .ok (.getfield 37, 3) := by decide +kernel
theorem dX11_all_61 : decode cX11_all 61 = .ok (.iload 4, 2) := by decide +kernel
theorem dX11_all_63 : decode cX11_all 63 = .ok (.iload_n 1, 1) := by decide +kernel
theorem dX11_all_64 : decode cX11_all 64 = .ok (.invokevirtual 158, 3) := by decide +kernel
theorem dX11_all_67 : decode cX11_all 67 = .ok (.iadd, 1) := by decide +kernel
theorem dX11_all_68 : decode cX11_all 68 = .ok (.istore_n 3, 1) := by decide +kernel
theorem dX11_all_69 : decode cX11_all 69 = .ok (.iinc 4 1, 3) := by decide +kernel
theorem dX11_all_72 : decode cX11_all 72 = .ok (.goto (-45), 3) := by decide +kernel
theorem dX11_all_75 : decode cX11_all 75 = .ok (.iload_n 3, 1) := by decide +kernel
theorem dX11_all_76 : decode cX11_all 76 = .ok (.ireturn, 1) := by decide +kernel
abbrev mi_X11_all : MI := (zTX, RX11, yX11_all, cX11_all, 5, (some .int), 4)
theorem cal_X11_all : zCalV mi_X11_all 2 := ⟨⟨zTB_i4 155 (by decide +kernel), zTB_i4 153 (by decide +kernel), zTB_i4 154 (by decide +kernel), zTB_i1 1 (by decide +kernel)⟩, ⟨by decide, by decide, by decide +kernel⟩, by decide⟩
noncomputable def X11_all_L1 (x1 : Int32) (x2 : Int32) (M : Mem) : Nat → Int32 → Int32 → Option (Int32)
  | 0, _, _ => none
  | n + 1, c3, c4 =>
    if (M.1 23 0) ≤ c4 then
      some c3
    else
    l1_ (α := Int32) (
      if x2 = 0 then
        (X9_purseOf 35 c4 x1 M)
      else
      (X9_overAt 35 c4 x1 M)) fun y6 =>
    X11_all_L1 x1 x2 M n (c3 + y6) (c4 + 1)
noncomputable def X11_all (x1 : Int32) (x2 : Int32) (M : Mem) : Option (Int32) :=
  if (X3_hasKind 23 x1 M) = true then
    if x2 < 0 then
      some (-1)
    else
    if x2 ≤ 1 then
      b1_ (α := Int32) (X11_all_L1 x1 x2 M zFU 0 0) fun e7 =>
      some e7
    else
    some (-1)
  else
  some (-1)
set_option maxRecDepth 100000 in
set_option maxHeartbeats 4000000 in
theorem X11_all_L1_ok (G : Gh) (x1 : Int32) (x2 : Int32) (M : Mem) {dn : Option (Int32) → Option (Option Value × Mem)} (hs : dn none = none) (hx : ∀ (e7 : Int32), Wr G mi_X11_all dn 75 [none, none, none, some (.int e7), none] [] M (some e7)) : ∀ (n : Nat) (c3 : Int32) (c4 : Int32), Wr G mi_X11_all dn 27 [some (.ref (G.2.2.2 (0))), some (.int x1), some (.int x2), some (.int c3), some (.int c4)] [] M (X11_all_L1 x1 x2 M n c3 c4) := by
  intro n
  induction n with
  | zero => intro c3 c4; exact r_none (by exact hs)
  | succ n ih =>
    intro c3 c4
    rw [X11_all_L1]
    refine r_iload dX11_all_27 rfl ?_
    refine r_aload_n dX11_all_29 rfl ?_
    refine r_getf (v := .ref (G.2.2.2 (23))) dX11_all_30 fX_0_2 kX11 (by decide) lkf_X11_28 rfl ?_
    refine r_getf (v := .int (M.1 23 0)) dX11_all_33 fX_23_0 kX3 (by decide) lkf_X11_109 rfl ?_
    refine r_icmp_ge (tgt := 75) dX11_all_36 rfl (fun h4 => ?_) (fun h4 => ?_)
    · exact r_lk (hx c3) (And.intro rfl True.intro)
    refine r_iload_n dX11_all_39 rfl ?_
    refine r_iload_n dX11_all_40 rfl ?_
    refine r_jL1 (j := 67) (lvj := fun y6 => [some (.ref (G.2.2.2 (0))), some (.int x1), some (.int x2), none, some (.int c4)]) (stj := fun y6 => [.int y6, .int c3]) (Mj := fun y6 => M) (fun y6 => ?_) (fun hj67 => ?_)
    · refine r_iadd dX11_all_67 ?_
      refine r_istore_n (lv' := [some (.ref (G.2.2.2 (0))), some (.int x1), some (.int x2), some (.int (c3 + y6)), some (.int c4)]) dX11_all_68 (Nat.le_of_ble_eq_true rfl) rfl rfl ?_
      refine r_iinc (y := c4 + 1) (lv' := [some (.ref (G.2.2.2 (0))), some (.int x1), some (.int x2), some (.int (c3 + y6)), some (.int (c4 + 1))]) dX11_all_69 rfl rfl (Nat.le_of_ble_eq_true rfl) rfl rfl ?_
      refine r_goto (tgt := 27) dX11_all_72 rfl ?_
      exact r_lk (ih (c3 + y6) (c4 + 1)) (And.intro rfl (And.intro rfl (And.intro rfl (And.intro rfl (And.intro rfl True.intro)))))
    refine r_if_ne (tgt := 57) dX11_all_41 rfl (fun h5 => ?_) (fun h5 => ?_)
    · refine r_aload_n dX11_all_44 rfl ?_
      refine r_getf (v := .ref (G.2.2.2 (35))) dX11_all_45 fX_0_3 kX11 (by decide) lkf_X11_37 rfl ?_
      refine r_iload dX11_all_48 rfl ?_
      refine r_iload_n dX11_all_50 rfl ?_
      refine c_I (inv_V (mi := mi_X11_all) (b := 35) (rest := [.int c3]) (X9_purseOf_ok_35 G c4 x1 M) rfl (by decide) dX11_all_51 lkm_X11_154 cal_X9_purseOf cX_35 rfl rfl (Nat.le_of_ble_eq_true rfl) rfl) ?_
      refine r_goto (tgt := 67) dX11_all_54 rfl ?_
      exact r_lk (hj67 (X9_purseOf 35 c4 x1 M)) (And.intro rfl (And.intro rfl (And.intro rfl (And.intro rfl True.intro))))
    refine r_aload_n dX11_all_57 rfl ?_
    refine r_getf (v := .ref (G.2.2.2 (35))) dX11_all_58 fX_0_3 kX11 (by decide) lkf_X11_37 rfl ?_
    refine r_iload dX11_all_61 rfl ?_
    refine r_iload_n dX11_all_63 rfl ?_
    refine c_I (inv_V (mi := mi_X11_all) (b := 35) (rest := [.int c3]) (X9_overAt_ok_35 G c4 x1 M) rfl (by decide) dX11_all_64 lkm_X11_158 cal_X9_overAt cX_35 rfl rfl (Nat.le_of_ble_eq_true rfl) rfl) ?_
    exact r_lk (hj67 (X9_overAt 35 c4 x1 M)) (And.intro rfl (And.intro rfl (And.intro rfl (And.intro rfl True.intro))))
set_option maxRecDepth 100000 in
set_option maxHeartbeats 4000000 in
theorem X11_all_ok (G : Gh) (x1 : Int32) (x2 : Int32) (M : Mem) : Mt G mi_X11_all [.ref (G.2.2.2 (0)), .int x1, .int x2] M ((dO (dI M)) (X11_all x1 x2 M)) := by
  refine Mt_of (lv := [some (.ref (G.2.2.2 (0))), some (.int x1), some (.int x2)]) (by decide) rfl (Nat.le_of_ble_eq_true rfl) rfl ?_
  refine r_le (lv' := [some (.ref (G.2.2.2 (0))), some (.int x1), some (.int x2), none, none]) (And.intro rfl (And.intro rfl (And.intro rfl True.intro))) ?_
  unfold X11_all
  refine r_aload_n dX11_all_0 rfl ?_
  refine r_getf (v := .ref (G.2.2.2 (23))) dX11_all_1 fX_0_2 kX11 (by decide) lkf_X11_28 rfl ?_
  refine r_iload_n dX11_all_4 rfl ?_
  refine c_Z (inv_V (mi := mi_X11_all) (b := 23) (rest := []) (X3_hasKind_ok_23 G x1 M) rfl (by decide) dX11_all_5 lkm_X11_164 cal_X3_hasKind cX_23 rfl rfl (Nat.le_of_ble_eq_true rfl) rfl) ?_
  refine r_ifz_eq (tgt := 20) dX11_all_8 rfl (fun h1 => ?_) (fun h1 => ?_)
  · refine r_iload_n dX11_all_11 rfl ?_
    refine r_if_lt (tgt := 20) dX11_all_12 rfl (fun h2 => ?_) (fun h2 => ?_)
    · refine r_iconst (x := (-1)) dX11_all_20 rfl ?_
      exact r_iret (ty := .int) dX11_all_21 rfl rfl rfl
    refine r_iload_n dX11_all_15 rfl ?_
    refine r_iconst (x := 1) dX11_all_16 rfl ?_
    refine r_icmp_le (tgt := 22) dX11_all_17 rfl (fun h3 => ?_) (fun h3 => ?_)
    · refine r_iconst (x := 0) dX11_all_22 rfl ?_
      refine r_istore_n (lv' := [some (.ref (G.2.2.2 (0))), some (.int x1), some (.int x2), some (.int 0), none]) dX11_all_23 (Nat.le_of_ble_eq_true rfl) rfl rfl ?_
      refine r_iconst (x := 0) dX11_all_24 rfl ?_
      refine r_istore (lv' := [some (.ref (G.2.2.2 (0))), some (.int x1), some (.int x2), some (.int 0), some (.int 0)]) dX11_all_25 (Nat.le_of_ble_eq_true rfl) rfl rfl ?_
      refine r_jB1 (j := 75) (lvj := fun e7 => [none, none, none, some (.int e7), none]) (stj := fun e7 => []) (Mj := fun e7 => M) (fun e7 => ?_) (fun hj75 => ?_)
      · refine r_iload_n dX11_all_75 rfl ?_
        exact r_iret (ty := .int) dX11_all_76 rfl rfl rfl
      exact r_lk (X11_all_L1_ok G x1 x2 M rfl hj75 zFU 0 0) (And.intro rfl (And.intro rfl (And.intro rfl (And.intro rfl (And.intro rfl True.intro)))))
    refine r_iconst (x := (-1)) dX11_all_20 rfl ?_
    exact r_iret (ty := .int) dX11_all_21 rfl rfl rfl
  refine r_iconst (x := (-1)) dX11_all_20 rfl ?_
  exact r_iret (ty := .int) dX11_all_21 rfl rfl rfl

theorem dX9_leftOf_0 : decode cX9_leftOf 0 = .ok (.aload_n 0, 1) := by decide +kernel
theorem dX9_leftOf_1 : decode cX9_leftOf 1 = .ok (.getfield 23, 3) := by decide +kernel
theorem dX9_leftOf_4 : decode cX9_leftOf 4 = .ok (.getfield 60, 3) := by decide +kernel
theorem dX9_leftOf_7 : decode cX9_leftOf 7 = .ok (.aload_n 0, 1) := by decide +kernel
theorem dX9_leftOf_8 : decode cX9_leftOf 8 = .ok (.iload_n 1, 1) := by decide +kernel
theorem dX9_leftOf_9 : decode cX9_leftOf 9 = .ok (.invokevirtual 63, 3) := by decide +kernel
theorem dX9_leftOf_12 : decode cX9_leftOf 12 = .ok (.isub, 1) := by decide +kernel
theorem dX9_leftOf_13 : decode cX9_leftOf 13 = .ok (.ireturn, 1) := by decide +kernel
abbrev mi_X9_leftOf : MI := (zTX, RX9, yX9_leftOf, cX9_leftOf, 2, (some .int), 4)
theorem cal_X9_leftOf : zCalV mi_X9_leftOf 1 := ⟨⟨zTB_i4 164 (by decide +kernel), zTB_i4 162 (by decide +kernel), zTB_i4 163 (by decide +kernel), zTB_i1 8 (by decide +kernel)⟩, ⟨by decide, by decide, by decide +kernel⟩, by decide⟩
noncomputable def X9_leftOf (o0 : Nat) (x1 : Int32) (M : Mem) : Int32 :=
  (M.1 23 4) - (X9_spentBy o0 x1 M)
set_option maxRecDepth 100000 in
set_option maxHeartbeats 4000000 in
theorem X9_leftOf_ok_35 (G : Gh) (x1 : Int32) (M : Mem) : Mt G mi_X9_leftOf [.ref (G.2.2.2 (35)), .int x1] M ((dI M) (X9_leftOf 35 x1 M)) := by
  refine Mt_of (lv := [some (.ref (G.2.2.2 (35))), some (.int x1)]) (by decide) rfl (Nat.le_of_ble_eq_true rfl) rfl ?_
  unfold X9_leftOf
  refine r_aload_n dX9_leftOf_0 rfl ?_
  refine r_getf (v := .ref (G.2.2.2 (23))) dX9_leftOf_1 fX_35_0 kX9 (by decide) lkf_X9_23 rfl ?_
  refine r_getf (v := .int (M.1 23 4)) dX9_leftOf_4 fX_23_4 kX3 (by decide) lkf_X9_60 rfl ?_
  refine r_aload_n dX9_leftOf_7 rfl ?_
  refine r_iload_n dX9_leftOf_8 rfl ?_
  refine c_I (inv_V (mi := mi_X9_leftOf) (b := 35) (rest := [.int (M.1 23 4)]) (X9_spentBy_ok_35 G x1 M) rfl (by decide) dX9_leftOf_9 lkm_X9_63 cal_X9_spentBy cX_35 rfl rfl (Nat.le_of_ble_eq_true rfl) rfl) ?_
  refine r_isub dX9_leftOf_12 ?_
  exact r_iret (ty := .int) dX9_leftOf_13 rfl rfl rfl
set_option maxRecDepth 100000 in
set_option maxHeartbeats 4000000 in
theorem X9_leftOf_ok_42 (G : Gh) (x1 : Int32) (M : Mem) : Mt G mi_X9_leftOf [.ref (G.2.2.2 (42)), .int x1] M ((dI M) (X9_leftOf 42 x1 M)) := by
  refine Mt_of (lv := [some (.ref (G.2.2.2 (42))), some (.int x1)]) (by decide) rfl (Nat.le_of_ble_eq_true rfl) rfl ?_
  unfold X9_leftOf
  refine r_aload_n dX9_leftOf_0 rfl ?_
  refine r_getf (v := .ref (G.2.2.2 (23))) dX9_leftOf_1 fX_42_0 kX9 (by decide) lkf_X9_23 rfl ?_
  refine r_getf (v := .int (M.1 23 4)) dX9_leftOf_4 fX_23_4 kX3 (by decide) lkf_X9_60 rfl ?_
  refine r_aload_n dX9_leftOf_7 rfl ?_
  refine r_iload_n dX9_leftOf_8 rfl ?_
  refine c_I (inv_V (mi := mi_X9_leftOf) (b := 42) (rest := [.int (M.1 23 4)]) (X9_spentBy_ok_42 G x1 M) rfl (by decide) dX9_leftOf_9 lkm_X9_63 cal_X9_spentBy cX_42 rfl rfl (Nat.le_of_ble_eq_true rfl) rfl) ?_
  refine r_isub dX9_leftOf_12 ?_
  exact r_iret (ty := .int) dX9_leftOf_13 rfl rfl rfl

theorem dX11_left_0 : decode cX11_left 0 = .ok (.aload_n 0, 1) := by decide +kernel
theorem dX11_left_1 : decode cX11_left 1 = .ok (.getfield 28, 3) := by decide +kernel
theorem dX11_left_4 : decode cX11_left 4 = .ok (.iload_n 1, 1) := by decide +kernel
theorem dX11_left_5 : decode cX11_left 5 = .ok (.invokevirtual 119, 3) := by decide +kernel
theorem dX11_left_8 : decode cX11_left 8 = .ok (.ifCond .eq 14, 3) := by decide +kernel
theorem dX11_left_11 : decode cX11_left 11 = .ok (.aload_n 0, 1) := by decide +kernel
theorem dX11_left_12 : decode cX11_left 12 = .ok (.getfield 37, 3) := by decide +kernel
theorem dX11_left_15 : decode cX11_left 15 = .ok (.iload_n 1, 1) := by decide +kernel
theorem dX11_left_16 : decode cX11_left 16 = .ok (.invokevirtual 167, 3) := by decide +kernel
theorem dX11_left_19 : decode cX11_left 19 = .ok (.goto 4, 3) := by decide +kernel
theorem dX11_left_22 : decode cX11_left 22 = .ok (.iconst (-1), 1) := by decide +kernel
theorem dX11_left_23 : decode cX11_left 23 = .ok (.ireturn, 1) := by decide +kernel
abbrev mi_X11_left : MI := (zTX, RX11, yX11_left, cX11_left, 2, (some .int), 5)
theorem cal_X11_left : zCalV mi_X11_left 1 := ⟨⟨zTB_i4 160 (by decide +kernel), zTB_i4 158 (by decide +kernel), zTB_i4 159 (by decide +kernel), zTB_i1 1 (by decide +kernel)⟩, ⟨by decide, by decide, by decide +kernel⟩, by decide⟩
noncomputable def X11_left (x1 : Int32) (M : Mem) : Int32 :=
  if (X3_hasMan 23 x1 M) = true then
    (X9_leftOf 35 x1 M)
  else
  (-1)
set_option maxRecDepth 100000 in
set_option maxHeartbeats 4000000 in
theorem X11_left_ok (G : Gh) (x1 : Int32) (M : Mem) : Mt G mi_X11_left [.ref (G.2.2.2 (0)), .int x1] M ((dI M) (X11_left x1 M)) := by
  refine Mt_of (lv := [some (.ref (G.2.2.2 (0))), some (.int x1)]) (by decide) rfl (Nat.le_of_ble_eq_true rfl) rfl ?_
  unfold X11_left
  refine r_aload_n dX11_left_0 rfl ?_
  refine r_getf (v := .ref (G.2.2.2 (23))) dX11_left_1 fX_0_2 kX11 (by decide) lkf_X11_28 rfl ?_
  refine r_iload_n dX11_left_4 rfl ?_
  refine c_Z (inv_V (mi := mi_X11_left) (b := 23) (rest := []) (X3_hasMan_ok_23 G x1 M) rfl (by decide) dX11_left_5 lkm_X11_119 cal_X3_hasMan cX_23 rfl rfl (Nat.le_of_ble_eq_true rfl) rfl) ?_
  refine r_ifz_eq (tgt := 22) dX11_left_8 rfl (fun h1 => ?_) (fun h1 => ?_)
  · refine r_aload_n dX11_left_11 rfl ?_
    refine r_getf (v := .ref (G.2.2.2 (35))) dX11_left_12 fX_0_3 kX11 (by decide) lkf_X11_37 rfl ?_
    refine r_iload_n dX11_left_15 rfl ?_
    refine c_I (inv_V (mi := mi_X11_left) (b := 35) (rest := []) (X9_leftOf_ok_35 G x1 M) rfl (by decide) dX11_left_16 lkm_X11_167 cal_X9_leftOf cX_35 rfl rfl (Nat.le_of_ble_eq_true rfl) rfl) ?_
    refine r_goto (tgt := 23) dX11_left_19 rfl ?_
    exact r_iret (ty := .int) dX11_left_23 rfl rfl rfl
  refine r_iconst (x := (-1)) dX11_left_22 rfl ?_
  exact r_iret (ty := .int) dX11_left_23 rfl rfl rfl

theorem dX9_addToPurse_0 : decode cX9_addToPurse 0 = .ok (.aload_n 0, 1) := by decide +kernel
theorem dX9_addToPurse_1 : decode cX9_addToPurse 1 = .ok (.getfield 11, 3) := by decide +kernel
theorem dX9_addToPurse_4 : decode cX9_addToPurse 4 = .ok (.iload_n 1, 1) := by decide +kernel
theorem dX9_addToPurse_5 : decode cX9_addToPurse 5 = .ok (.iconst 3, 1) := by decide +kernel
theorem dX9_addToPurse_6 : decode cX9_addToPurse 6 = .ok (.imul, 1) := by decide +kernel
theorem dX9_addToPurse_7 : decode cX9_addToPurse 7 = .ok (.iload_n 2, 1) := by decide +kernel
theorem dX9_addToPurse_8 : decode cX9_addToPurse 8 = .ok (.iadd, 1) := by decide +kernel
theorem dX9_addToPurse_9 : decode cX9_addToPurse 9 = .ok (.aload_n 0, 1) := by decide +kernel
theorem dX9_addToPurse_10 : decode cX9_addToPurse 10 = .ok (.iload_n 1, 1) := by decide +kernel
theorem dX9_addToPurse_11 : decode cX9_addToPurse 11 = .ok (.iload_n 2, 1) := by decide +kernel
theorem dX9_addToPurse_12 : decode cX9_addToPurse 12 = .ok (.invokevirtual 70, 3) := by decide +kernel
theorem dX9_addToPurse_15 : decode cX9_addToPurse 15 = .ok (.iload_n 3, 1) := by decide +kernel
theorem dX9_addToPurse_16 : decode cX9_addToPurse 16 = .ok (.iadd, 1) := by decide +kernel
theorem dX9_addToPurse_17 : decode cX9_addToPurse 17 = .ok (.bipush 99, 2) := by decide +kernel
theorem dX9_addToPurse_19 : decode cX9_addToPurse 19 = .ok (.invokestatic 74, 3) := by decide +kernel
theorem dX9_addToPurse_22 : decode cX9_addToPurse 22 = .ok (.invokestatic 27, 3) := by decide +kernel
theorem dX9_addToPurse_25 : decode cX9_addToPurse 25 = .ok (.return_, 1) := by decide +kernel
abbrev mi_X9_addToPurse : MI := (zTX, RX9, yX9_addToPurse, cX9_addToPurse, 4, none, 8)
theorem cal_X9_addToPurse : zCalV mi_X9_addToPurse 3 := ⟨⟨zTB_i4 177 (by decide +kernel), zTB_i4 175 (by decide +kernel), zTB_i4 176 (by decide +kernel), zTB_i1 8 (by decide +kernel)⟩, ⟨by decide, by decide, by decide +kernel⟩, by decide⟩
noncomputable def X9_addToPurse (o0 : Nat) (x1 : Int32) (x2 : Int32) (x3 : Int32) (M : Mem) : Mem :=
  lt_ (X11_put (o0 + 1) ((x1 * 3) + x2) (if 99 < ((X9_purseOf o0 x1 x2 M) + x3) then 99 else ((X9_purseOf o0 x1 x2 M) + x3)) M) fun M1 =>
  M1
set_option maxRecDepth 100000 in
set_option maxHeartbeats 4000000 in
theorem X9_addToPurse_ok_35 (G : Gh) (x1 : Int32) (x2 : Int32) (x3 : Int32) (M : Mem) : Mt G mi_X9_addToPurse [.ref (G.2.2.2 (35)), .int x1, .int x2, .int x3] M (dV (X9_addToPurse 35 x1 x2 x3 M)) := by
  refine Mt_of (lv := [some (.ref (G.2.2.2 (35))), some (.int x1), some (.int x2), some (.int x3)]) (by decide) rfl (Nat.le_of_ble_eq_true rfl) rfl ?_
  unfold X9_addToPurse
  refine r_aload_n dX9_addToPurse_0 rfl ?_
  refine r_getf (v := .ref (G.2.2.2 (35 + 1))) dX9_addToPurse_1 fX_35_1 kX9 (by decide) lkf_X9_11 rfl ?_
  refine r_iload_n dX9_addToPurse_4 rfl ?_
  refine r_iconst (x := 3) dX9_addToPurse_5 rfl ?_
  refine r_imul dX9_addToPurse_6 ?_
  refine r_iload_n dX9_addToPurse_7 rfl ?_
  refine r_iadd dX9_addToPurse_8 ?_
  refine r_aload_n dX9_addToPurse_9 rfl ?_
  refine r_iload_n dX9_addToPurse_10 rfl ?_
  refine r_iload_n dX9_addToPurse_11 rfl ?_
  refine c_I (inv_V (mi := mi_X9_addToPurse) (b := 35) (rest := [.int ((x1 * 3) + x2), .ref (G.2.2.2 (35 + 1))]) (X9_purseOf_ok_35 G x1 x2 M) rfl (by decide) dX9_addToPurse_12 lkm_X9_70 cal_X9_purseOf cX_35 rfl rfl (Nat.le_of_ble_eq_true rfl) rfl) ?_
  refine r_iload_n dX9_addToPurse_15 rfl ?_
  refine r_iadd dX9_addToPurse_16 ?_
  refine r_bipush (x := 99) dX9_addToPurse_17 rfl ?_
  refine r_min dX9_addToPurse_19 lkm_X9_74 tw_mmin1 tw_m2 tw_mmin3 (by decide) (Nat.le_of_ble_eq_true rfl) ?_
  refine c_V (inv_SN (mi := mi_X9_addToPurse) (rest := []) (X11_put_ok G aX_36p ((x1 * 3) + x2) (if 99 < ((X9_purseOf 35 x1 x2 M) + x3) then 99 else ((X9_purseOf 35 x1 x2 M) + x3)) M) rfl (by decide) dX9_addToPurse_22 lkm_X9_27 cal_X11_put rfl (Nat.le_of_ble_eq_true rfl) rfl) (fun M1 => ?_)
  exact r_vret dX9_addToPurse_25 rfl rfl
set_option maxRecDepth 100000 in
set_option maxHeartbeats 4000000 in
theorem X9_addToPurse_ok_42 (G : Gh) (x1 : Int32) (x2 : Int32) (x3 : Int32) (M : Mem) : Mt G mi_X9_addToPurse [.ref (G.2.2.2 (42)), .int x1, .int x2, .int x3] M (dV (X9_addToPurse 42 x1 x2 x3 M)) := by
  refine Mt_of (lv := [some (.ref (G.2.2.2 (42))), some (.int x1), some (.int x2), some (.int x3)]) (by decide) rfl (Nat.le_of_ble_eq_true rfl) rfl ?_
  unfold X9_addToPurse
  refine r_aload_n dX9_addToPurse_0 rfl ?_
  refine r_getf (v := .ref (G.2.2.2 (42 + 1))) dX9_addToPurse_1 fX_42_1 kX9 (by decide) lkf_X9_11 rfl ?_
  refine r_iload_n dX9_addToPurse_4 rfl ?_
  refine r_iconst (x := 3) dX9_addToPurse_5 rfl ?_
  refine r_imul dX9_addToPurse_6 ?_
  refine r_iload_n dX9_addToPurse_7 rfl ?_
  refine r_iadd dX9_addToPurse_8 ?_
  refine r_aload_n dX9_addToPurse_9 rfl ?_
  refine r_iload_n dX9_addToPurse_10 rfl ?_
  refine r_iload_n dX9_addToPurse_11 rfl ?_
  refine c_I (inv_V (mi := mi_X9_addToPurse) (b := 42) (rest := [.int ((x1 * 3) + x2), .ref (G.2.2.2 (42 + 1))]) (X9_purseOf_ok_42 G x1 x2 M) rfl (by decide) dX9_addToPurse_12 lkm_X9_70 cal_X9_purseOf cX_42 rfl rfl (Nat.le_of_ble_eq_true rfl) rfl) ?_
  refine r_iload_n dX9_addToPurse_15 rfl ?_
  refine r_iadd dX9_addToPurse_16 ?_
  refine r_bipush (x := 99) dX9_addToPurse_17 rfl ?_
  refine r_min dX9_addToPurse_19 lkm_X9_74 tw_mmin1 tw_m2 tw_mmin3 (by decide) (Nat.le_of_ble_eq_true rfl) ?_
  refine c_V (inv_SN (mi := mi_X9_addToPurse) (rest := []) (X11_put_ok G aX_43p ((x1 * 3) + x2) (if 99 < ((X9_purseOf 42 x1 x2 M) + x3) then 99 else ((X9_purseOf 42 x1 x2 M) + x3)) M) rfl (by decide) dX9_addToPurse_22 lkm_X9_27 cal_X11_put rfl (Nat.le_of_ble_eq_true rfl) rfl) (fun M1 => ?_)
  exact r_vret dX9_addToPurse_25 rfl rfl

theorem dX9_spendHours_0 : decode cX9_spendHours 0 = .ok (.aload_n 0, 1) := by decide +kernel
theorem dX9_spendHours_1 : decode cX9_spendHours 1 = .ok (.iload_n 1, 1) := by decide +kernel
theorem dX9_spendHours_2 : decode cX9_spendHours 2 = .ok (.iload_n 2, 1) := by decide +kernel
theorem dX9_spendHours_3 : decode cX9_spendHours 3 = .ok (.iload_n 3, 1) := by decide +kernel
theorem dX9_spendHours_4 : decode cX9_spendHours 4 = .ok (.ineg, 1) := by decide +kernel
theorem dX9_spendHours_5 : decode cX9_spendHours 5 = .ok (.invokevirtual 79, 3) := by decide +kernel
theorem dX9_spendHours_8 : decode cX9_spendHours 8 = .ok (.aload_n 0, 1) := by decide +kernel
theorem dX9_spendHours_9 : decode cX9_spendHours 9 = .ok (.getfield 11, 3) := by decide +kernel
theorem dX9_spendHours_12 : decode cX9_spendHours 12 = .ok (.bipush 35, 2) := by decide +kernel
theorem dX9_spendHours_14 : decode cX9_spendHours 14 = .ok (.iload_n 1, 1) := by decide +kernel
theorem dX9_spendHours_15 : decode cX9_spendHours 15 = .ok (.iadd, 1) := by decide +kernel
theorem dX9_spendHours_16 : decode cX9_spendHours 16 = .ok (.aload_n 0, 1) := by decide +kernel
theorem dX9_spendHours_17 : decode cX9_spendHours 17 = .ok (.iload_n 1, 1) := by decide +kernel
theorem dX9_spendHours_18 : decode cX9_spendHours 18 = .ok (.invokevirtual 63, 3) := by decide +kernel
theorem dX9_spendHours_21 : decode cX9_spendHours 21 = .ok (.iload_n 3, 1) := by decide +kernel
theorem dX9_spendHours_22 : decode cX9_spendHours 22 = .ok (.iadd, 1) := by decide +kernel
theorem dX9_spendHours_23 : decode cX9_spendHours 23 = .ok (.invokestatic 27, 3) := by decide +kernel
theorem dX9_spendHours_26 : decode cX9_spendHours 26 = .ok (.iload_n 1, 1) := by decide +kernel
theorem dX9_spendHours_27 : decode cX9_spendHours 27 = .ok (.iconst 1, 1) := by decide +kernel
theorem dX9_spendHours_28 : decode cX9_spendHours 28 = .ok (.isub, 1) := by decide +kernel
theorem dX9_spendHours_29 : decode cX9_spendHours 29 = .ok (.istore 4, 2) := by decide +kernel
theorem dX9_spendHours_31 : decode cX9_spendHours 31 = .ok (.iload 4, 2) := by decide +kernel
theorem dX9_spendHours_33 : decode cX9_spendHours 33 = .ok (.iload_n 1, 1) := by decide +kernel
theorem dX9_spendHours_34 : decode cX9_spendHours 34 = .ok (.iconst 1, 1) := by decide +kernel
theorem dX9_spendHours_35 : decode cX9_spendHours 35 = .ok (.iadd, 1) := by decide +kernel
theorem dX9_spendHours_36 : decode cX9_spendHours 36 = .ok (.if_icmp .gt 60, 3) := by decide +kernel
theorem dX9_spendHours_39 : decode cX9_spendHours 39 = .ok (.aload_n 0, 1) := by decide +kernel
theorem dX9_spendHours_40 : decode cX9_spendHours 40 = .ok (.getfield 23, 3) := by decide +kernel
theorem dX9_spendHours_43 : decode cX9_spendHours 43 = .ok (.iload 4, 2) := by decide +kernel
theorem dX9_spendHours_45 : decode cX9_spendHours 45 = .ok (.invokevirtual 83, 3) := by decide +kernel
theorem dX9_spendHours_48 : decode cX9_spendHours 48 = .ok (.ifCond .eq 42, 3) := by decide +kernel
theorem dX9_spendHours_51 : decode cX9_spendHours 51 = .ok (.aload_n 0, 1) := by decide +kernel
theorem dX9_spendHours_52 : decode cX9_spendHours 52 = .ok (.iload 4, 2) := by decide +kernel
theorem dX9_spendHours_54 : decode cX9_spendHours 54 = .ok (.iload_n 2, 1) := by decide +kernel
theorem dX9_spendHours_55 : decode cX9_spendHours 55 = .ok (.invokevirtual 87, 3) := by decide +kernel
theorem dX9_spendHours_58 : decode cX9_spendHours 58 = .ok (.aload_n 0, 1) := by decide +kernel
theorem dX9_spendHours_59 : decode cX9_spendHours 59 = .ok (.getfield 23, 3) := by decide +kernel
theorem dX9_spendHours_62 : decode cX9_spendHours 62 = .ok (.iload_n 1, 1) := by decide +kernel
theorem dX9_spendHours_63 : decode cX9_spendHours 63 = .ok (.iload 4, 2) := by decide +kernel
theorem dX9_spendHours_65 : decode cX9_spendHours 65 = .ok (.iload_n 3, 1) := by decide +kernel
theorem dX9_spendHours_66 : decode cX9_spendHours 66 = .ok (.invokevirtual 90, 3) := by decide +kernel
theorem dX9_spendHours_69 : decode cX9_spendHours 69 = .ok (.iadd, 1) := by decide +kernel
theorem dX9_spendHours_70 : decode cX9_spendHours 70 = .ok (.istore 5, 2) := by decide +kernel
theorem dX9_spendHours_72 : decode cX9_spendHours 72 = .ok (.aload_n 0, 1) := by decide +kernel
theorem dX9_spendHours_73 : decode cX9_spendHours 73 = .ok (.getfield 11, 3) := by decide +kernel
theorem dX9_spendHours_76 : decode cX9_spendHours 76 = .ok (.bipush 15, 2) := by decide +kernel
theorem dX9_spendHours_78 : decode cX9_spendHours 78 = .ok (.iload 4, 2) := by decide +kernel
theorem dX9_spendHours_80 : decode cX9_spendHours 80 = .ok (.iconst 3, 1) := by decide +kernel
theorem dX9_spendHours_81 : decode cX9_spendHours 81 = .ok (.imul, 1) := by decide +kernel
theorem dX9_spendHours_82 : decode cX9_spendHours 82 = .ok (.iadd, 1) := by decide +kernel
theorem dX9_spendHours_83 : decode cX9_spendHours 83 = .ok (.iload_n 2, 1) := by decide +kernel
theorem dX9_spendHours_84 : decode cX9_spendHours 84 = .ok (.iadd, 1) := by decide +kernel
theorem dX9_spendHours_85 : decode cX9_spendHours 85 = .ok (.iload 5, 2) := by decide +kernel
theorem dX9_spendHours_87 : decode cX9_spendHours 87 = .ok (.invokestatic 27, 3) := by decide +kernel
theorem dX9_spendHours_90 : decode cX9_spendHours 90 = .ok (.iinc 4 1, 3) := by decide +kernel
theorem dX9_spendHours_93 : decode cX9_spendHours 93 = .ok (.goto (-62), 3) := by decide +kernel
theorem dX9_spendHours_96 : decode cX9_spendHours 96 = .ok (.return_, 1) := by decide +kernel
abbrev mi_X9_spendHours : MI := (zTX, RX9, yX9_spendHours, cX9_spendHours, 6, none, 9)
theorem cal_X9_spendHours : zCalV mi_X9_spendHours 3 := ⟨⟨zTB_i4 173 (by decide +kernel), zTB_i4 171 (by decide +kernel), zTB_i4 172 (by decide +kernel), zTB_i1 8 (by decide +kernel)⟩, ⟨by decide, by decide, by decide +kernel⟩, by decide⟩
noncomputable def X9_spendHours_L1 (o0 : Nat) (x1 : Int32) (x2 : Int32) (x3 : Int32) : Nat → Int32 → Mem → Option (Mem)
  | 0, _, _ => none
  | n + 1, c4, M =>
    if (x1 + 1) < c4 then
      some M
    else
    l1_ (α := Mem) (
      if (X3_hasMan 23 c4 M) = true then
        lt_ (α := Int32) ((X9_overAt o0 c4 x2 M) + (X3_reach 23 x1 c4 x3 M)) fun y5 =>
        lt_ (X11_put (o0 + 1) ((15 + (c4 * 3)) + x2) y5 M) fun M6 =>
        M6
      else
      M) fun M7 =>
    X9_spendHours_L1 o0 x1 x2 x3 n (c4 + 1) M7
noncomputable def X9_spendHours (o0 : Nat) (x1 : Int32) (x2 : Int32) (x3 : Int32) (M : Mem) : Option (Mem) :=
  lt_ (X9_addToPurse o0 x1 x2 (-x3) M) fun M1 =>
  lt_ (X11_put (o0 + 1) (35 + x1) ((X9_spentBy o0 x1 M1) + x3) M1) fun M2 =>
  b1_ (α := Mem) (X9_spendHours_L1 o0 x1 x2 x3 zFU (x1 - 1) M2) fun M8 =>
  some M8
set_option maxRecDepth 100000 in
set_option maxHeartbeats 4000000 in
theorem X9_spendHours_L1_ok_35 (G : Gh) (x1 : Int32) (x2 : Int32) (x3 : Int32) {dn : Option (Mem) → Option (Option Value × Mem)} (hs : dn none = none) (hx : ∀ (M8 : Mem), Wr G mi_X9_spendHours dn 96 [none, none, none, none, none, none] [] M8 (some M8)) : ∀ (n : Nat) (c4 : Int32) (M : Mem), Wr G mi_X9_spendHours dn 31 [some (.ref (G.2.2.2 (35))), some (.int x1), some (.int x2), some (.int x3), some (.int c4), none] [] M (X9_spendHours_L1 35 x1 x2 x3 n c4 M) := by
  intro n
  induction n with
  | zero => intro c4 M; exact r_none (by exact hs)
  | succ n ih =>
    intro c4 M
    rw [X9_spendHours_L1]
    refine r_iload dX9_spendHours_31 rfl ?_
    refine r_iload_n dX9_spendHours_33 rfl ?_
    refine r_iconst (x := 1) dX9_spendHours_34 rfl ?_
    refine r_iadd dX9_spendHours_35 ?_
    refine r_icmp_gt (tgt := 96) dX9_spendHours_36 rfl (fun h3 => ?_) (fun h3 => ?_)
    · exact r_lk (hx M) True.intro
    refine r_aload_n dX9_spendHours_39 rfl ?_
    refine r_getf (v := .ref (G.2.2.2 (23))) dX9_spendHours_40 fX_35_0 kX9 (by decide) lkf_X9_23 rfl ?_
    refine r_iload dX9_spendHours_43 rfl ?_
    refine c_Z (inv_V (mi := mi_X9_spendHours) (b := 23) (rest := []) (X3_hasMan_ok_23 G c4 M) rfl (by decide) dX9_spendHours_45 lkm_X9_83 cal_X3_hasMan cX_23 rfl rfl (Nat.le_of_ble_eq_true rfl) rfl) ?_
    refine r_jL1 (j := 90) (lvj := fun M7 => [some (.ref (G.2.2.2 (35))), some (.int x1), some (.int x2), some (.int x3), some (.int c4), none]) (stj := fun M7 => []) (Mj := fun M7 => M7) (fun M7 => ?_) (fun hj90 => ?_)
    · refine r_iinc (y := c4 + 1) (lv' := [some (.ref (G.2.2.2 (35))), some (.int x1), some (.int x2), some (.int x3), some (.int (c4 + 1)), none]) dX9_spendHours_90 rfl rfl (Nat.le_of_ble_eq_true rfl) rfl rfl ?_
      refine r_goto (tgt := 31) dX9_spendHours_93 rfl ?_
      exact r_lk (ih (c4 + 1) M7) (And.intro rfl (And.intro rfl (And.intro rfl (And.intro rfl (And.intro rfl True.intro)))))
    refine r_ifz_eq (tgt := 90) dX9_spendHours_48 rfl (fun h4 => ?_) (fun h4 => ?_)
    · refine r_aload_n dX9_spendHours_51 rfl ?_
      refine r_iload dX9_spendHours_52 rfl ?_
      refine r_iload_n dX9_spendHours_54 rfl ?_
      refine c_I (inv_V (mi := mi_X9_spendHours) (b := 35) (rest := []) (X9_overAt_ok_35 G c4 x2 M) rfl (by decide) dX9_spendHours_55 lkm_X9_87 cal_X9_overAt cX_35 rfl rfl (Nat.le_of_ble_eq_true rfl) rfl) ?_
      refine r_aload_n dX9_spendHours_58 rfl ?_
      refine r_getf (v := .ref (G.2.2.2 (23))) dX9_spendHours_59 fX_35_0 kX9 (by decide) lkf_X9_23 rfl ?_
      refine r_iload_n dX9_spendHours_62 rfl ?_
      refine r_iload dX9_spendHours_63 rfl ?_
      refine r_iload_n dX9_spendHours_65 rfl ?_
      refine c_I (inv_V (mi := mi_X9_spendHours) (b := 23) (rest := [.int ((X9_overAt 35 c4 x2 M))]) (X3_reach_ok_23 G x1 c4 x3 M) rfl (by decide) dX9_spendHours_66 lkm_X9_90 cal_X3_reach cX_23 rfl rfl (Nat.le_of_ble_eq_true rfl) rfl) ?_
      refine r_iadd dX9_spendHours_69 ?_
      refine r_letI (fun y5 => ?_)
      refine r_istore (lv' := [some (.ref (G.2.2.2 (35))), some (.int x1), some (.int x2), some (.int x3), some (.int c4), some (.int y5)]) dX9_spendHours_70 (Nat.le_of_ble_eq_true rfl) rfl rfl ?_
      refine r_aload_n dX9_spendHours_72 rfl ?_
      refine r_getf (v := .ref (G.2.2.2 (35 + 1))) dX9_spendHours_73 fX_35_1 kX9 (by decide) lkf_X9_11 rfl ?_
      refine r_bipush (x := 15) dX9_spendHours_76 rfl ?_
      refine r_iload dX9_spendHours_78 rfl ?_
      refine r_iconst (x := 3) dX9_spendHours_80 rfl ?_
      refine r_imul dX9_spendHours_81 ?_
      refine r_iadd dX9_spendHours_82 ?_
      refine r_iload_n dX9_spendHours_83 rfl ?_
      refine r_iadd dX9_spendHours_84 ?_
      refine r_iload dX9_spendHours_85 rfl ?_
      refine c_V (inv_SN (mi := mi_X9_spendHours) (rest := []) (X11_put_ok G aX_36p ((15 + (c4 * 3)) + x2) y5 M) rfl (by decide) dX9_spendHours_87 lkm_X9_27 cal_X11_put rfl (Nat.le_of_ble_eq_true rfl) rfl) (fun M6 => ?_)
      exact r_lk (hj90 M6) (And.intro rfl (And.intro rfl (And.intro rfl (And.intro rfl (And.intro rfl True.intro)))))
    exact r_lk (hj90 M) (And.intro rfl (And.intro rfl (And.intro rfl (And.intro rfl (And.intro rfl True.intro)))))
set_option maxRecDepth 100000 in
set_option maxHeartbeats 4000000 in
theorem X9_spendHours_ok_35 (G : Gh) (x1 : Int32) (x2 : Int32) (x3 : Int32) (M : Mem) : Mt G mi_X9_spendHours [.ref (G.2.2.2 (35)), .int x1, .int x2, .int x3] M ((dO dV) (X9_spendHours 35 x1 x2 x3 M)) := by
  refine Mt_of (lv := [some (.ref (G.2.2.2 (35))), some (.int x1), some (.int x2), some (.int x3)]) (by decide) rfl (Nat.le_of_ble_eq_true rfl) rfl ?_
  refine r_le (lv' := [some (.ref (G.2.2.2 (35))), some (.int x1), some (.int x2), some (.int x3), none, none]) (And.intro rfl (And.intro rfl (And.intro rfl (And.intro rfl True.intro)))) ?_
  unfold X9_spendHours
  refine r_aload_n dX9_spendHours_0 rfl ?_
  refine r_iload_n dX9_spendHours_1 rfl ?_
  refine r_iload_n dX9_spendHours_2 rfl ?_
  refine r_iload_n dX9_spendHours_3 rfl ?_
  refine r_ineg dX9_spendHours_4 ?_
  refine c_V (inv_V (mi := mi_X9_spendHours) (b := 35) (rest := []) (X9_addToPurse_ok_35 G x1 x2 (-x3) M) rfl (by decide) dX9_spendHours_5 lkm_X9_79 cal_X9_addToPurse cX_35 rfl rfl (Nat.le_of_ble_eq_true rfl) rfl) (fun M1 => ?_)
  refine r_aload_n dX9_spendHours_8 rfl ?_
  refine r_getf (v := .ref (G.2.2.2 (35 + 1))) dX9_spendHours_9 fX_35_1 kX9 (by decide) lkf_X9_11 rfl ?_
  refine r_bipush (x := 35) dX9_spendHours_12 rfl ?_
  refine r_iload_n dX9_spendHours_14 rfl ?_
  refine r_iadd dX9_spendHours_15 ?_
  refine r_aload_n dX9_spendHours_16 rfl ?_
  refine r_iload_n dX9_spendHours_17 rfl ?_
  refine c_I (inv_V (mi := mi_X9_spendHours) (b := 35) (rest := [.int (35 + x1), .ref (G.2.2.2 (35 + 1))]) (X9_spentBy_ok_35 G x1 M1) rfl (by decide) dX9_spendHours_18 lkm_X9_63 cal_X9_spentBy cX_35 rfl rfl (Nat.le_of_ble_eq_true rfl) rfl) ?_
  refine r_iload_n dX9_spendHours_21 rfl ?_
  refine r_iadd dX9_spendHours_22 ?_
  refine c_V (inv_SN (mi := mi_X9_spendHours) (rest := []) (X11_put_ok G aX_36p (35 + x1) ((X9_spentBy 35 x1 M1) + x3) M1) rfl (by decide) dX9_spendHours_23 lkm_X9_27 cal_X11_put rfl (Nat.le_of_ble_eq_true rfl) rfl) (fun M2 => ?_)
  refine r_iload_n dX9_spendHours_26 rfl ?_
  refine r_iconst (x := 1) dX9_spendHours_27 rfl ?_
  refine r_isub dX9_spendHours_28 ?_
  refine r_istore (lv' := [some (.ref (G.2.2.2 (35))), some (.int x1), some (.int x2), some (.int x3), some (.int (x1 - 1)), none]) dX9_spendHours_29 (Nat.le_of_ble_eq_true rfl) rfl rfl ?_
  refine r_jB1 (j := 96) (lvj := fun M8 => [none, none, none, none, none, none]) (stj := fun M8 => []) (Mj := fun M8 => M8) (fun M8 => ?_) (fun hj96 => ?_)
  · exact r_vret dX9_spendHours_96 rfl rfl
  exact r_lk (X9_spendHours_L1_ok_35 G x1 x2 x3 rfl hj96 zFU (x1 - 1) M2) (And.intro rfl (And.intro rfl (And.intro rfl (And.intro rfl (And.intro rfl True.intro)))))
set_option maxRecDepth 100000 in
set_option maxHeartbeats 4000000 in
theorem X9_spendHours_L1_ok_42 (G : Gh) (x1 : Int32) (x2 : Int32) (x3 : Int32) {dn : Option (Mem) → Option (Option Value × Mem)} (hs : dn none = none) (hx : ∀ (M8 : Mem), Wr G mi_X9_spendHours dn 96 [none, none, none, none, none, none] [] M8 (some M8)) : ∀ (n : Nat) (c4 : Int32) (M : Mem), Wr G mi_X9_spendHours dn 31 [some (.ref (G.2.2.2 (42))), some (.int x1), some (.int x2), some (.int x3), some (.int c4), none] [] M (X9_spendHours_L1 42 x1 x2 x3 n c4 M) := by
  intro n
  induction n with
  | zero => intro c4 M; exact r_none (by exact hs)
  | succ n ih =>
    intro c4 M
    rw [X9_spendHours_L1]
    refine r_iload dX9_spendHours_31 rfl ?_
    refine r_iload_n dX9_spendHours_33 rfl ?_
    refine r_iconst (x := 1) dX9_spendHours_34 rfl ?_
    refine r_iadd dX9_spendHours_35 ?_
    refine r_icmp_gt (tgt := 96) dX9_spendHours_36 rfl (fun h3 => ?_) (fun h3 => ?_)
    · exact r_lk (hx M) True.intro
    refine r_aload_n dX9_spendHours_39 rfl ?_
    refine r_getf (v := .ref (G.2.2.2 (23))) dX9_spendHours_40 fX_42_0 kX9 (by decide) lkf_X9_23 rfl ?_
    refine r_iload dX9_spendHours_43 rfl ?_
    refine c_Z (inv_V (mi := mi_X9_spendHours) (b := 23) (rest := []) (X3_hasMan_ok_23 G c4 M) rfl (by decide) dX9_spendHours_45 lkm_X9_83 cal_X3_hasMan cX_23 rfl rfl (Nat.le_of_ble_eq_true rfl) rfl) ?_
    refine r_jL1 (j := 90) (lvj := fun M7 => [some (.ref (G.2.2.2 (42))), some (.int x1), some (.int x2), some (.int x3), some (.int c4), none]) (stj := fun M7 => []) (Mj := fun M7 => M7) (fun M7 => ?_) (fun hj90 => ?_)
    · refine r_iinc (y := c4 + 1) (lv' := [some (.ref (G.2.2.2 (42))), some (.int x1), some (.int x2), some (.int x3), some (.int (c4 + 1)), none]) dX9_spendHours_90 rfl rfl (Nat.le_of_ble_eq_true rfl) rfl rfl ?_
      refine r_goto (tgt := 31) dX9_spendHours_93 rfl ?_
      exact r_lk (ih (c4 + 1) M7) (And.intro rfl (And.intro rfl (And.intro rfl (And.intro rfl (And.intro rfl True.intro)))))
    refine r_ifz_eq (tgt := 90) dX9_spendHours_48 rfl (fun h4 => ?_) (fun h4 => ?_)
    · refine r_aload_n dX9_spendHours_51 rfl ?_
      refine r_iload dX9_spendHours_52 rfl ?_
      refine r_iload_n dX9_spendHours_54 rfl ?_
      refine c_I (inv_V (mi := mi_X9_spendHours) (b := 42) (rest := []) (X9_overAt_ok_42 G c4 x2 M) rfl (by decide) dX9_spendHours_55 lkm_X9_87 cal_X9_overAt cX_42 rfl rfl (Nat.le_of_ble_eq_true rfl) rfl) ?_
      refine r_aload_n dX9_spendHours_58 rfl ?_
      refine r_getf (v := .ref (G.2.2.2 (23))) dX9_spendHours_59 fX_42_0 kX9 (by decide) lkf_X9_23 rfl ?_
      refine r_iload_n dX9_spendHours_62 rfl ?_
      refine r_iload dX9_spendHours_63 rfl ?_
      refine r_iload_n dX9_spendHours_65 rfl ?_
      refine c_I (inv_V (mi := mi_X9_spendHours) (b := 23) (rest := [.int ((X9_overAt 42 c4 x2 M))]) (X3_reach_ok_23 G x1 c4 x3 M) rfl (by decide) dX9_spendHours_66 lkm_X9_90 cal_X3_reach cX_23 rfl rfl (Nat.le_of_ble_eq_true rfl) rfl) ?_
      refine r_iadd dX9_spendHours_69 ?_
      refine r_letI (fun y5 => ?_)
      refine r_istore (lv' := [some (.ref (G.2.2.2 (42))), some (.int x1), some (.int x2), some (.int x3), some (.int c4), some (.int y5)]) dX9_spendHours_70 (Nat.le_of_ble_eq_true rfl) rfl rfl ?_
      refine r_aload_n dX9_spendHours_72 rfl ?_
      refine r_getf (v := .ref (G.2.2.2 (42 + 1))) dX9_spendHours_73 fX_42_1 kX9 (by decide) lkf_X9_11 rfl ?_
      refine r_bipush (x := 15) dX9_spendHours_76 rfl ?_
      refine r_iload dX9_spendHours_78 rfl ?_
      refine r_iconst (x := 3) dX9_spendHours_80 rfl ?_
      refine r_imul dX9_spendHours_81 ?_
      refine r_iadd dX9_spendHours_82 ?_
      refine r_iload_n dX9_spendHours_83 rfl ?_
      refine r_iadd dX9_spendHours_84 ?_
      refine r_iload dX9_spendHours_85 rfl ?_
      refine c_V (inv_SN (mi := mi_X9_spendHours) (rest := []) (X11_put_ok G aX_43p ((15 + (c4 * 3)) + x2) y5 M) rfl (by decide) dX9_spendHours_87 lkm_X9_27 cal_X11_put rfl (Nat.le_of_ble_eq_true rfl) rfl) (fun M6 => ?_)
      exact r_lk (hj90 M6) (And.intro rfl (And.intro rfl (And.intro rfl (And.intro rfl (And.intro rfl True.intro)))))
    exact r_lk (hj90 M) (And.intro rfl (And.intro rfl (And.intro rfl (And.intro rfl (And.intro rfl True.intro)))))
set_option maxRecDepth 100000 in
set_option maxHeartbeats 4000000 in
theorem X9_spendHours_ok_42 (G : Gh) (x1 : Int32) (x2 : Int32) (x3 : Int32) (M : Mem) : Mt G mi_X9_spendHours [.ref (G.2.2.2 (42)), .int x1, .int x2, .int x3] M ((dO dV) (X9_spendHours 42 x1 x2 x3 M)) := by
  refine Mt_of (lv := [some (.ref (G.2.2.2 (42))), some (.int x1), some (.int x2), some (.int x3)]) (by decide) rfl (Nat.le_of_ble_eq_true rfl) rfl ?_
  refine r_le (lv' := [some (.ref (G.2.2.2 (42))), some (.int x1), some (.int x2), some (.int x3), none, none]) (And.intro rfl (And.intro rfl (And.intro rfl (And.intro rfl True.intro)))) ?_
  unfold X9_spendHours
  refine r_aload_n dX9_spendHours_0 rfl ?_
  refine r_iload_n dX9_spendHours_1 rfl ?_
  refine r_iload_n dX9_spendHours_2 rfl ?_
  refine r_iload_n dX9_spendHours_3 rfl ?_
  refine r_ineg dX9_spendHours_4 ?_
  refine c_V (inv_V (mi := mi_X9_spendHours) (b := 42) (rest := []) (X9_addToPurse_ok_42 G x1 x2 (-x3) M) rfl (by decide) dX9_spendHours_5 lkm_X9_79 cal_X9_addToPurse cX_42 rfl rfl (Nat.le_of_ble_eq_true rfl) rfl) (fun M1 => ?_)
  refine r_aload_n dX9_spendHours_8 rfl ?_
  refine r_getf (v := .ref (G.2.2.2 (42 + 1))) dX9_spendHours_9 fX_42_1 kX9 (by decide) lkf_X9_11 rfl ?_
  refine r_bipush (x := 35) dX9_spendHours_12 rfl ?_
  refine r_iload_n dX9_spendHours_14 rfl ?_
  refine r_iadd dX9_spendHours_15 ?_
  refine r_aload_n dX9_spendHours_16 rfl ?_
  refine r_iload_n dX9_spendHours_17 rfl ?_
  refine c_I (inv_V (mi := mi_X9_spendHours) (b := 42) (rest := [.int (35 + x1), .ref (G.2.2.2 (42 + 1))]) (X9_spentBy_ok_42 G x1 M1) rfl (by decide) dX9_spendHours_18 lkm_X9_63 cal_X9_spentBy cX_42 rfl rfl (Nat.le_of_ble_eq_true rfl) rfl) ?_
  refine r_iload_n dX9_spendHours_21 rfl ?_
  refine r_iadd dX9_spendHours_22 ?_
  refine c_V (inv_SN (mi := mi_X9_spendHours) (rest := []) (X11_put_ok G aX_43p (35 + x1) ((X9_spentBy 42 x1 M1) + x3) M1) rfl (by decide) dX9_spendHours_23 lkm_X9_27 cal_X11_put rfl (Nat.le_of_ble_eq_true rfl) rfl) (fun M2 => ?_)
  refine r_iload_n dX9_spendHours_26 rfl ?_
  refine r_iconst (x := 1) dX9_spendHours_27 rfl ?_
  refine r_isub dX9_spendHours_28 ?_
  refine r_istore (lv' := [some (.ref (G.2.2.2 (42))), some (.int x1), some (.int x2), some (.int x3), some (.int (x1 - 1)), none]) dX9_spendHours_29 (Nat.le_of_ble_eq_true rfl) rfl rfl ?_
  refine r_jB1 (j := 96) (lvj := fun M8 => [none, none, none, none, none, none]) (stj := fun M8 => []) (Mj := fun M8 => M8) (fun M8 => ?_) (fun hj96 => ?_)
  · exact r_vret dX9_spendHours_96 rfl rfl
  exact r_lk (X9_spendHours_L1_ok_42 G x1 x2 x3 rfl hj96 zFU (x1 - 1) M2) (And.intro rfl (And.intro rfl (And.intro rfl (And.intro rfl (And.intro rfl True.intro)))))

theorem dX0_slotOfNow_0 : decode cX0_slotOfNow 0 = .ok (.aload_n 0, 1) := by decide +kernel
theorem dX0_slotOfNow_1 : decode cX0_slotOfNow 1 = .ok (.getfield 19, 3) := by decide +kernel
theorem dX0_slotOfNow_4 : decode cX0_slotOfNow 4 = .ok (.aload_n 0, 1) := by decide +kernel
theorem dX0_slotOfNow_5 : decode cX0_slotOfNow 5 = .ok (.getfield 23, 3) := by decide +kernel
theorem dX0_slotOfNow_8 : decode cX0_slotOfNow 8 = .ok (.iadd, 1) := by decide +kernel
theorem dX0_slotOfNow_9 : decode cX0_slotOfNow 9 = .ok (.bipush 41, 2) := by decide +kernel
theorem dX0_slotOfNow_11 : decode cX0_slotOfNow 11 = .ok (.irem, 1) := by decide +kernel
theorem dX0_slotOfNow_12 : decode cX0_slotOfNow 12 = .ok (.ireturn, 1) := by decide +kernel
abbrev mi_X0_slotOfNow : MI := (zTX, RX0, yX0_slotOfNow, cX0_slotOfNow, 1, (some .int), 2)
theorem cal_X0_slotOfNow : zCalV mi_X0_slotOfNow 0 := ⟨⟨zTB_i4 186 (by decide +kernel), zTB_i4 185 (by decide +kernel), zTB_i0 25 (by decide +kernel), zTB_i1 9 (by decide +kernel)⟩, ⟨by decide, by decide, by decide +kernel⟩, by decide⟩
noncomputable def X0_slotOfNow (M : Mem) : Int32 :=
  ((M.1 39 2) + (M.1 39 3)) % 41
set_option maxRecDepth 100000 in
set_option maxHeartbeats 4000000 in
theorem X0_slotOfNow_ok (G : Gh) (M : Mem) : Mt G mi_X0_slotOfNow [.ref (G.2.2.2 (39))] M ((dI M) (X0_slotOfNow M)) := by
  refine Mt_of (lv := [some (.ref (G.2.2.2 (39)))]) (by decide) rfl (Nat.le_of_ble_eq_true rfl) rfl ?_
  unfold X0_slotOfNow
  refine r_aload_n dX0_slotOfNow_0 rfl ?_
  refine r_getf (v := .int (M.1 39 2)) dX0_slotOfNow_1 fX_39_2 kX0 (by decide) lkf_X0_19 rfl ?_
  refine r_aload_n dX0_slotOfNow_4 rfl ?_
  refine r_getf (v := .int (M.1 39 3)) dX0_slotOfNow_5 fX_39_3 kX0 (by decide) lkf_X0_23 rfl ?_
  refine r_iadd dX0_slotOfNow_8 ?_
  refine r_bipush (x := 41) dX0_slotOfNow_9 rfl ?_
  refine r_irem dX0_slotOfNow_11 (by decide) ?_
  exact r_iret (ty := .int) dX0_slotOfNow_12 rfl rfl rfl

theorem dX0_keep_0 : decode cX0_keep 0 = .ok (.aload_n 0, 1) := by decide +kernel
theorem dX0_keep_1 : decode cX0_keep 1 = .ok (.getfield 23, 3) := by decide +kernel
theorem dX0_keep_4 : decode cX0_keep 4 = .ok (.bipush 40, 2) := by decide +kernel
theorem dX0_keep_6 : decode cX0_keep 6 = .ok (.if_icmp .ge 16, 3) := by decide +kernel
theorem dX0_keep_9 : decode cX0_keep 9 = .ok (.aload_n 0, 1) := by decide +kernel
theorem dX0_keep_10 : decode cX0_keep 10 = .ok (.dup, 1) := by decide +kernel
theorem dX0_keep_11 : decode cX0_keep 11 = .ok (.getfield 23, 3) := by decide +kernel
theorem dX0_keep_14 : decode cX0_keep 14 = .ok (.iconst 1, 1) := by decide +kernel
theorem dX0_keep_15 : decode cX0_keep 15 = .ok (.iadd, 1) := by decide +kernel
theorem dX0_keep_16 : decode cX0_keep 16 = .ok (.putfield 23, 3) := by decide +kernel
theorem dX0_keep_19 : decode cX0_keep 19 = .ok (.goto 16, 3) := by decide +kernel
theorem dX0_keep_22 : decode cX0_keep 22 = .ok (.aload_n 0, 1) := by decide +kernel
theorem dX0_keep_23 : decode cX0_keep 23 = .ok (.aload_n 0, 1) := by decide +kernel
theorem dX0_keep_24 : decode cX0_keep 24 = .ok (.getfield 19, 3) := by decide +kernel
theorem dX0_keep_27 : decode cX0_keep 27 = .ok (.iconst 1, 1) := by decide +kernel
theorem dX0_keep_28 : decode cX0_keep 28 = .ok (.iadd, 1) := by decide +kernel
theorem dX0_keep_29 : decode cX0_keep 29 = .ok (.bipush 41, 2) := by decide +kernel
theorem dX0_keep_31 : decode cX0_keep 31 = .ok (.irem, 1) := by decide +kernel
theorem dX0_keep_32 : decode cX0_keep 32 = .ok (.putfield 19, 3) := by decide +kernel
theorem dX0_keep_35 : decode cX0_keep 35 = .ok (.aload_n 0, 1) := by decide +kernel
theorem dX0_keep_36 : decode cX0_keep 36 = .ok (.aload_n 0, 1) := by decide +kernel
theorem dX0_keep_37 : decode cX0_keep 37 = .ok (.getfield 23, 3) := by decide +kernel
theorem dX0_keep_40 : decode cX0_keep 40 = .ok (.putfield 26, 3) := by decide +kernel
theorem dX0_keep_43 : decode cX0_keep 43 = .ok (.aload_n 0, 1) := by decide +kernel
theorem dX0_keep_44 : decode cX0_keep 44 = .ok (.getfield 15, 3) := by decide +kernel
theorem dX0_keep_47 : decode cX0_keep 47 = .ok (.aload_n 0, 1) := by decide +kernel
theorem dX0_keep_48 : decode cX0_keep 48 = .ok (.getfield 11, 3) := by decide +kernel
theorem dX0_keep_51 : decode cX0_keep 51 = .ok (.aload_n 0, 1) := by decide +kernel
theorem dX0_keep_52 : decode cX0_keep 52 = .ok (.invokevirtual 33, 3) := by decide +kernel
theorem dX0_keep_55 : decode cX0_keep 55 = .ok (.invokevirtual 29, 3) := by decide +kernel
theorem dX0_keep_58 : decode cX0_keep 58 = .ok (.return_, 1) := by decide +kernel
abbrev mi_X0_keep : MI := (zTX, RX0, yX0_keep, cX0_keep, 1, none, 9)
theorem cal_X0_keep : zCalV mi_X0_keep 0 := ⟨⟨zTB_i4 182 (by decide +kernel), zTB_i4 180 (by decide +kernel), zTB_i4 181 (by decide +kernel), zTB_i1 9 (by decide +kernel)⟩, ⟨by decide, by decide, by decide +kernel⟩, by decide⟩
noncomputable def X0_keep (M : Mem) : Option (Mem) :=
  l1_ (α := Mem) (
    if 40 ≤ (M.1 39 3) then
      lt_ (uI M 39 2 (((M.1 39 2) + 1) % 41)) fun M2 =>
      M2
    else
    lt_ (uI M 39 3 ((M.1 39 3) + 1)) fun M3 =>
    M3) fun M4 =>
  lt_ (uI M4 39 4 (M4.1 39 3)) fun M5 =>
  bo_ (X9_saveTo 35 40 (X0_slotOfNow M5) M5) fun M6 =>
  some M6
set_option maxRecDepth 100000 in
set_option maxHeartbeats 4000000 in
theorem X0_keep_ok (G : Gh) (M : Mem) : Mt G mi_X0_keep [.ref (G.2.2.2 (39))] M ((dO dV) (X0_keep M)) := by
  refine Mt_of (lv := [some (.ref (G.2.2.2 (39)))]) (by decide) rfl (Nat.le_of_ble_eq_true rfl) rfl ?_
  unfold X0_keep
  refine r_aload_n dX0_keep_0 rfl ?_
  refine r_getf (v := .int (M.1 39 3)) dX0_keep_1 fX_39_3 kX0 (by decide) lkf_X0_23 rfl ?_
  refine r_bipush (x := 40) dX0_keep_4 rfl ?_
  refine r_jL1 (j := 35) (lvj := fun M4 => [some (.ref (G.2.2.2 (39)))]) (stj := fun M4 => []) (Mj := fun M4 => M4) (fun M4 => ?_) (fun hj35 => ?_)
  · refine r_aload_n dX0_keep_35 rfl ?_
    refine r_aload_n dX0_keep_36 rfl ?_
    refine r_getf (v := .int (M4.1 39 3)) dX0_keep_37 fX_39_3 kX0 (by decide) lkf_X0_23 rfl ?_
    refine r_putI dX0_keep_40 fX_39_4 kX0 (by decide) rfl rfl lkf_X0_26 (fun _ => rfl) rfl rfl (fun M5 => ?_)
    refine r_aload_n dX0_keep_43 rfl ?_
    refine r_getf (v := .ref (G.2.2.2 (35))) dX0_keep_44 fX_39_0 kX0 (by decide) lkf_X0_15 rfl ?_
    refine r_aload_n dX0_keep_47 rfl ?_
    refine r_getf (v := .ref (G.2.2.2 (40))) dX0_keep_48 fX_39_1 kX0 (by decide) lkf_X0_11 rfl ?_
    refine r_aload_n dX0_keep_51 rfl ?_
    refine c_I (inv_V (mi := mi_X0_keep) (b := 39) (rest := [.ref (G.2.2.2 (40)), .ref (G.2.2.2 (35))]) (X0_slotOfNow_ok G M5) rfl (by decide) dX0_keep_52 lkm_X0_33 cal_X0_slotOfNow cX_39 rfl rfl (Nat.le_of_ble_eq_true rfl) rfl) ?_
    refine c_OV rfl (inv_V (mi := mi_X0_keep) (b := 35) (rest := []) (X9_saveTo_ok_35 G aX_40p (X0_slotOfNow M5) M5) rfl (by decide) dX0_keep_55 lkm_X0_29 cal_X9_saveTo cX_35 rfl rfl (Nat.le_of_ble_eq_true rfl) rfl) (fun M6 => ?_)
    exact r_vret dX0_keep_58 rfl rfl
  refine r_icmp_ge (tgt := 22) dX0_keep_6 rfl (fun h1 => ?_) (fun h1 => ?_)
  · refine r_aload_n dX0_keep_22 rfl ?_
    refine r_aload_n dX0_keep_23 rfl ?_
    refine r_getf (v := .int (M.1 39 2)) dX0_keep_24 fX_39_2 kX0 (by decide) lkf_X0_19 rfl ?_
    refine r_iconst (x := 1) dX0_keep_27 rfl ?_
    refine r_iadd dX0_keep_28 ?_
    refine r_bipush (x := 41) dX0_keep_29 rfl ?_
    refine r_irem dX0_keep_31 (by decide) ?_
    refine r_putI dX0_keep_32 fX_39_2 kX0 (by decide) rfl rfl lkf_X0_19 (fun _ => rfl) rfl rfl (fun M2 => ?_)
    exact r_lk (hj35 M2) (And.intro rfl True.intro)
  refine r_aload_n dX0_keep_9 rfl ?_
  refine r_dup dX0_keep_10 rfl ?_
  refine r_getf (v := .int (M.1 39 3)) dX0_keep_11 fX_39_3 kX0 (by decide) lkf_X0_23 rfl ?_
  refine r_iconst (x := 1) dX0_keep_14 rfl ?_
  refine r_iadd dX0_keep_15 ?_
  refine r_putI dX0_keep_16 fX_39_3 kX0 (by decide) rfl rfl lkf_X0_23 (fun _ => rfl) rfl rfl (fun M3 => ?_)
  refine r_goto (tgt := 35) dX0_keep_19 rfl ?_
  exact r_lk (hj35 M3) (And.intro rfl True.intro)

theorem dX11_spend_0 : decode cX11_spend 0 = .ok (.aload_n 0, 1) := by decide +kernel
theorem dX11_spend_1 : decode cX11_spend 1 = .ok (.getfield 28, 3) := by decide +kernel
theorem dX11_spend_4 : decode cX11_spend 4 = .ok (.iload_n 1, 1) := by decide +kernel
theorem dX11_spend_5 : decode cX11_spend 5 = .ok (.iload_n 2, 1) := by decide +kernel
theorem dX11_spend_6 : decode cX11_spend 6 = .ok (.invokevirtual 150, 3) := by decide +kernel
theorem dX11_spend_9 : decode cX11_spend 9 = .ok (.ifCond .eq 14, 3) := by decide +kernel
theorem dX11_spend_12 : decode cX11_spend 12 = .ok (.iload_n 3, 1) := by decide +kernel
theorem dX11_spend_13 : decode cX11_spend 13 = .ok (.iconst 1, 1) := by decide +kernel
theorem dX11_spend_14 : decode cX11_spend 14 = .ok (.if_icmp .lt 9, 3) := by decide +kernel
theorem dX11_spend_17 : decode cX11_spend 17 = .ok (.iload_n 3, 1) := by decide +kernel
theorem dX11_spend_18 : decode cX11_spend 18 = .ok (.bipush 8, 2) := by decide +kernel
theorem dX11_spend_20 : decode cX11_spend 20 = .ok (.if_icmp .le 5, 3) := by decide +kernel
theorem dX11_spend_23 : decode cX11_spend 23 = .ok (.iconst (-1), 1) := by decide +kernel
theorem dX11_spend_24 : decode cX11_spend 24 = .ok (.ireturn, 1) := by decide +kernel
theorem dX11_spend_25 : decode cX11_spend 25 = .ok (.iload_n 3, 1) := by decide +kernel
theorem dX11_spend_26 : decode cX11_spend 26 = .ok (.aload_n 0, 1) := by decide +kernel
theorem dX11_spend_27 : decode cX11_spend 27 = .ok (.getfield 37, 3) := by decide +kernel
theorem dX11_spend_30 : decode cX11_spend 30 = .ok (.iload_n 1, 1) := by decide +kernel
theorem dX11_spend_31 : decode cX11_spend 31 = .ok (.iload_n 2, 1) := by decide +kernel
theorem dX11_spend_32 : decode cX11_spend 32 = .ok (.invokevirtual 154, 3) := by decide +kernel
theorem dX11_spend_35 : decode cX11_spend 35 = .ok (.if_icmp .gt 15, 3) := by decide +kernel
theorem dX11_spend_38 : decode cX11_spend 38 = .ok (.iload_n 3, 1) := by decide +kernel
theorem dX11_spend_39 : decode cX11_spend 39 = .ok (.aload_n 0, 1) := by decide +kernel
theorem dX11_spend_40 : decode cX11_spend 40 = .ok (.getfield 37, 3) := by decide +kernel
theorem dX11_spend_43 : decode cX11_spend 43 = .ok (.iload_n 1, 1) := by decide +kernel
theorem dX11_spend_44 : decode cX11_spend 44 = .ok (.invokevirtual 167, 3) := by decide +kernel
theorem dX11_spend_47 : decode cX11_spend 47 = .ok (.if_icmp .le 5, 3) := by decide +kernel
theorem dX11_spend_50 : decode cX11_spend 50 = .ok (.iconst (-1), 1) := by decide +kernel
theorem dX11_spend_51 : decode cX11_spend 51 = .ok (.ireturn, 1) := by decide +kernel
theorem dX11_spend_52 : decode cX11_spend 52 = .ok (.aload_n 0, 1) := by decide +kernel
theorem dX11_spend_53 : decode cX11_spend 53 = .ok (.getfield 37, 3) := by decide +kernel
theorem dX11_spend_56 : decode cX11_spend 56 = .ok (.iload_n 1, 1) := by decide +kernel
theorem dX11_spend_57 : decode cX11_spend 57 = .ok (.iload_n 2, 1) := by decide +kernel
theorem dX11_spend_58 : decode cX11_spend 58 = .ok (.iload_n 3, 1) := by decide +kernel
theorem dX11_spend_59 : decode cX11_spend 59 = .ok (.invokevirtual 170, 3) := by decide +kernel
theorem dX11_spend_62 : decode cX11_spend 62 = .ok (.aload_n 0, 1) := by decide +kernel
theorem dX11_spend_63 : decode cX11_spend 63 = .ok (.getfield 46, 3) := by decide +kernel
theorem dX11_spend_66 : decode cX11_spend 66 = .ok (.invokevirtual 174, 3) := by decide +kernel
theorem dX11_spend_69 : decode cX11_spend 69 = .ok (.aload_n 0, 1) := by decide +kernel
theorem dX11_spend_70 : decode cX11_spend 70 = .ok (.getfield 37, 3) := by decide +kernel
theorem dX11_spend_73 : decode cX11_spend 73 = .ok (.iload_n 1, 1) := by decide +kernel
theorem dX11_spend_74 : decode cX11_spend 74 = .ok (.iload_n 2, 1) := by decide +kernel
theorem dX11_spend_75 : decode cX11_spend 75 = .ok (.invokevirtual 158, 3) := by decide +kernel
theorem dX11_spend_78 : decode cX11_spend 78 = .ok (.ireturn, 1) := by decide +kernel
abbrev mi_X11_spend : MI := (zTX, RX11, yX11_spend, cX11_spend, 4, (some .int), 10)
theorem cal_X11_spend : zCalV mi_X11_spend 3 := ⟨⟨zTB_i4 169 (by decide +kernel), zTB_i4 167 (by decide +kernel), zTB_i4 168 (by decide +kernel), zTB_i1 1 (by decide +kernel)⟩, ⟨by decide, by decide, by decide +kernel⟩, by decide⟩
noncomputable def X11_spend (x1 : Int32) (x2 : Int32) (x3 : Int32) (M : Mem) : Option (Int32 × Mem) :=
  if (X3_hasPair 23 x1 x2 M) = true then
    if x3 < 1 then
      some ((-1), M)
    else
    if x3 ≤ 8 then
      if (X9_purseOf 35 x1 x2 M) < x3 then
        some ((-1), M)
      else
      if x3 ≤ (X9_leftOf 35 x1 M) then
        bo_ (X9_spendHours 35 x1 x2 x3 M) fun M6 =>
        bo_ (X0_keep M6) fun M7 =>
        some ((X9_overAt 35 x1 x2 M7), M7)
      else
      some ((-1), M)
    else
    some ((-1), M)
  else
  some ((-1), M)
set_option maxRecDepth 100000 in
set_option maxHeartbeats 4000000 in
theorem X11_spend_ok (G : Gh) (x1 : Int32) (x2 : Int32) (x3 : Int32) (M : Mem) : Mt G mi_X11_spend [.ref (G.2.2.2 (0)), .int x1, .int x2, .int x3] M ((dO dIM) (X11_spend x1 x2 x3 M)) := by
  refine Mt_of (lv := [some (.ref (G.2.2.2 (0))), some (.int x1), some (.int x2), some (.int x3)]) (by decide) rfl (Nat.le_of_ble_eq_true rfl) rfl ?_
  unfold X11_spend
  refine r_aload_n dX11_spend_0 rfl ?_
  refine r_getf (v := .ref (G.2.2.2 (23))) dX11_spend_1 fX_0_2 kX11 (by decide) lkf_X11_28 rfl ?_
  refine r_iload_n dX11_spend_4 rfl ?_
  refine r_iload_n dX11_spend_5 rfl ?_
  refine c_Z (inv_V (mi := mi_X11_spend) (b := 23) (rest := []) (X3_hasPair_ok_23 G x1 x2 M) rfl (by decide) dX11_spend_6 lkm_X11_150 cal_X3_hasPair cX_23 rfl rfl (Nat.le_of_ble_eq_true rfl) rfl) ?_
  refine r_ifz_eq (tgt := 23) dX11_spend_9 rfl (fun h1 => ?_) (fun h1 => ?_)
  · refine r_iload_n dX11_spend_12 rfl ?_
    refine r_iconst (x := 1) dX11_spend_13 rfl ?_
    refine r_icmp_lt (tgt := 23) dX11_spend_14 rfl (fun h2 => ?_) (fun h2 => ?_)
    · refine r_iconst (x := (-1)) dX11_spend_23 rfl ?_
      exact r_iret (ty := .int) dX11_spend_24 rfl rfl rfl
    refine r_iload_n dX11_spend_17 rfl ?_
    refine r_bipush (x := 8) dX11_spend_18 rfl ?_
    refine r_icmp_le (tgt := 25) dX11_spend_20 rfl (fun h3 => ?_) (fun h3 => ?_)
    · refine r_iload_n dX11_spend_25 rfl ?_
      refine r_aload_n dX11_spend_26 rfl ?_
      refine r_getf (v := .ref (G.2.2.2 (35))) dX11_spend_27 fX_0_3 kX11 (by decide) lkf_X11_37 rfl ?_
      refine r_iload_n dX11_spend_30 rfl ?_
      refine r_iload_n dX11_spend_31 rfl ?_
      refine c_I (inv_V (mi := mi_X11_spend) (b := 35) (rest := [.int x3]) (X9_purseOf_ok_35 G x1 x2 M) rfl (by decide) dX11_spend_32 lkm_X11_154 cal_X9_purseOf cX_35 rfl rfl (Nat.le_of_ble_eq_true rfl) rfl) ?_
      refine r_icmp_gt (tgt := 50) dX11_spend_35 rfl (fun h4 => ?_) (fun h4 => ?_)
      · refine r_iconst (x := (-1)) dX11_spend_50 rfl ?_
        exact r_iret (ty := .int) dX11_spend_51 rfl rfl rfl
      refine r_iload_n dX11_spend_38 rfl ?_
      refine r_aload_n dX11_spend_39 rfl ?_
      refine r_getf (v := .ref (G.2.2.2 (35))) dX11_spend_40 fX_0_3 kX11 (by decide) lkf_X11_37 rfl ?_
      refine r_iload_n dX11_spend_43 rfl ?_
      refine c_I (inv_V (mi := mi_X11_spend) (b := 35) (rest := [.int x3]) (X9_leftOf_ok_35 G x1 M) rfl (by decide) dX11_spend_44 lkm_X11_167 cal_X9_leftOf cX_35 rfl rfl (Nat.le_of_ble_eq_true rfl) rfl) ?_
      refine r_icmp_le (tgt := 52) dX11_spend_47 rfl (fun h5 => ?_) (fun h5 => ?_)
      · refine r_aload_n dX11_spend_52 rfl ?_
        refine r_getf (v := .ref (G.2.2.2 (35))) dX11_spend_53 fX_0_3 kX11 (by decide) lkf_X11_37 rfl ?_
        refine r_iload_n dX11_spend_56 rfl ?_
        refine r_iload_n dX11_spend_57 rfl ?_
        refine r_iload_n dX11_spend_58 rfl ?_
        refine c_OV rfl (inv_V (mi := mi_X11_spend) (b := 35) (rest := []) (X9_spendHours_ok_35 G x1 x2 x3 M) rfl (by decide) dX11_spend_59 lkm_X11_170 cal_X9_spendHours cX_35 rfl rfl (Nat.le_of_ble_eq_true rfl) rfl) (fun M6 => ?_)
        refine r_aload_n dX11_spend_62 rfl ?_
        refine r_getf (v := .ref (G.2.2.2 (39))) dX11_spend_63 fX_0_4 kX11 (by decide) lkf_X11_46 rfl ?_
        refine c_OV rfl (inv_V (mi := mi_X11_spend) (b := 39) (rest := []) (X0_keep_ok G M6) rfl (by decide) dX11_spend_66 lkm_X11_174 cal_X0_keep cX_39 rfl rfl (Nat.le_of_ble_eq_true rfl) rfl) (fun M7 => ?_)
        refine r_aload_n dX11_spend_69 rfl ?_
        refine r_getf (v := .ref (G.2.2.2 (35))) dX11_spend_70 fX_0_3 kX11 (by decide) lkf_X11_37 rfl ?_
        refine r_iload_n dX11_spend_73 rfl ?_
        refine r_iload_n dX11_spend_74 rfl ?_
        refine c_I (inv_V (mi := mi_X11_spend) (b := 35) (rest := []) (X9_overAt_ok_35 G x1 x2 M7) rfl (by decide) dX11_spend_75 lkm_X11_158 cal_X9_overAt cX_35 rfl rfl (Nat.le_of_ble_eq_true rfl) rfl) ?_
        exact r_iret (ty := .int) dX11_spend_78 rfl rfl rfl
      refine r_iconst (x := (-1)) dX11_spend_50 rfl ?_
      exact r_iret (ty := .int) dX11_spend_51 rfl rfl rfl
    refine r_iconst (x := (-1)) dX11_spend_23 rfl ?_
    exact r_iret (ty := .int) dX11_spend_24 rfl rfl rfl
  refine r_iconst (x := (-1)) dX11_spend_23 rfl ?_
  exact r_iret (ty := .int) dX11_spend_24 rfl rfl rfl

theorem dX11_give_0 : decode cX11_give 0 = .ok (.aload_n 0, 1) := by decide +kernel
theorem dX11_give_1 : decode cX11_give 1 = .ok (.getfield 28, 3) := by decide +kernel
theorem dX11_give_4 : decode cX11_give 4 = .ok (.iload_n 1, 1) := by decide +kernel
theorem dX11_give_5 : decode cX11_give 5 = .ok (.iload_n 3, 1) := by decide +kernel
theorem dX11_give_6 : decode cX11_give 6 = .ok (.invokevirtual 150, 3) := by decide +kernel
theorem dX11_give_9 : decode cX11_give 9 = .ok (.ifCond .eq 19, 3) := by decide +kernel
theorem dX11_give_12 : decode cX11_give 12 = .ok (.aload_n 0, 1) := by decide +kernel
theorem dX11_give_13 : decode cX11_give 13 = .ok (.getfield 28, 3) := by decide +kernel
theorem dX11_give_16 : decode cX11_give 16 = .ok (.iload_n 2, 1) := by decide +kernel
theorem dX11_give_17 : decode cX11_give 17 = .ok (.invokevirtual 119, 3) := by decide +kernel
theorem dX11_give_20 : decode cX11_give 20 = .ok (.ifCond .eq 8, 3) := by decide +kernel
theorem dX11_give_23 : decode cX11_give 23 = .ok (.iload_n 1, 1) := by decide +kernel
theorem dX11_give_24 : decode cX11_give 24 = .ok (.iload_n 2, 1) := by decide +kernel
theorem dX11_give_25 : decode cX11_give 25 = .ok (.if_icmp .ne 5, 3) := by decide +kernel
theorem dX11_give_28 : decode cX11_give 28 = .ok (.iconst (-1), 1) := by decide +kernel
theorem dX11_give_29 : decode cX11_give 29 = .ok (.ireturn, 1) := by decide +kernel
theorem dX11_give_30 : decode cX11_give 30 = .ok (.iload 4, 2) := by decide +kernel
theorem dX11_give_32 : decode cX11_give 32 = .ok (.iconst 1, 1) := by decide +kernel
theorem dX11_give_33 : decode cX11_give 33 = .ok (.if_icmp .lt 24, 3) := by decide +kernel
theorem dX11_give_36 : decode cX11_give 36 = .ok (.iload 4, 2) := by decide +kernel
theorem dX11_give_38 : decode cX11_give 38 = .ok (.bipush 99, 2) := by decide +kernel
theorem dX11_give_40 : decode cX11_give 40 = .ok (.if_icmp .gt 17, 3) := by decide +kernel
theorem dX11_give_43 : decode cX11_give 43 = .ok (.iload 4, 2) := by decide +kernel
theorem dX11_give_45 : decode cX11_give 45 = .ok (.aload_n 0, 1) := by decide +kernel
theorem dX11_give_46 : decode cX11_give 46 = .ok (.getfield 37, 3) := by decide +kernel
theorem dX11_give_49 : decode cX11_give 49 = .ok (.iload_n 1, 1) := by decide +kernel
theorem dX11_give_50 : decode cX11_give 50 = .ok (.iload_n 3, 1) := by decide +kernel
theorem dX11_give_51 : decode cX11_give 51 = .ok (.invokevirtual 154, 3) := by decide +kernel
theorem dX11_give_54 : decode cX11_give 54 = .ok (.if_icmp .le 5, 3) := by decide +kernel
theorem dX11_give_57 : decode cX11_give 57 = .ok (.iconst (-1), 1) := by decide +kernel
theorem dX11_give_58 : decode cX11_give 58 = .ok (.ireturn, 1) := by decide +kernel
theorem dX11_give_59 : decode cX11_give 59 = .ok (.aload_n 0, 1) := by decide +kernel
theorem dX11_give_60 : decode cX11_give 60 = .ok (.getfield 37, 3) := by decide +kernel
theorem dX11_give_63 : decode cX11_give 63 = .ok (.iload_n 1, 1) := by decide +kernel
theorem dX11_give_64 : decode cX11_give 64 = .ok (.iload_n 3, 1) := by decide +kernel
theorem dX11_give_65 : decode cX11_give 65 = .ok (.iload 4, 2) := by decide +kernel
theorem dX11_give_67 : decode cX11_give 67 = .ok (.ineg, 1) := by decide +kernel
theorem dX11_give_68 : decode cX11_give 68 = .ok (.invokevirtual 177, 3) := by decide +kernel
theorem dX11_give_71 : decode cX11_give 71 = .ok (.aload_n 0, 1) := by decide +kernel
theorem dX11_give_72 : decode cX11_give 72 = .ok (.getfield 37, 3) := by decide +kernel
theorem dX11_give_75 : decode cX11_give 75 = .ok (.iload_n 2, 1) := by decide +kernel
theorem dX11_give_76 : decode cX11_give 76 = .ok (.iload_n 3, 1) := by decide +kernel
theorem dX11_give_77 : decode cX11_give 77 = .ok (.iload 4, 2) := by decide +kernel
theorem dX11_give_79 : decode cX11_give 79 = .ok (.invokevirtual 177, 3) := by decide +kernel
theorem dX11_give_82 : decode cX11_give 82 = .ok (.aload_n 0, 1) := by decide +kernel
theorem dX11_give_83 : decode cX11_give 83 = .ok (.getfield 46, 3) := by decide +kernel
theorem dX11_give_86 : decode cX11_give 86 = .ok (.invokevirtual 174, 3) := by decide +kernel
theorem dX11_give_89 : decode cX11_give 89 = .ok (.aload_n 0, 1) := by decide +kernel
theorem dX11_give_90 : decode cX11_give 90 = .ok (.getfield 37, 3) := by decide +kernel
theorem dX11_give_93 : decode cX11_give 93 = .ok (.iload_n 2, 1) := by decide +kernel
theorem dX11_give_94 : decode cX11_give 94 = .ok (.iload_n 3, 1) := by decide +kernel
theorem dX11_give_95 : decode cX11_give 95 = .ok (.invokevirtual 154, 3) := by decide +kernel
theorem dX11_give_98 : decode cX11_give 98 = .ok (.ireturn, 1) := by decide +kernel
abbrev mi_X11_give : MI := (zTX, RX11, yX11_give, cX11_give, 5, (some .int), 10)
theorem cal_X11_give : zCalV mi_X11_give 4 := ⟨⟨zTB_i4 190 (by decide +kernel), zTB_i4 188 (by decide +kernel), zTB_i4 189 (by decide +kernel), zTB_i1 1 (by decide +kernel)⟩, ⟨by decide, by decide, by decide +kernel⟩, by decide⟩
noncomputable def X11_give (x1 : Int32) (x2 : Int32) (x3 : Int32) (x4 : Int32) (M : Mem) : Option (Int32 × Mem) :=
  if (X3_hasPair 23 x1 x3 M) = true then
    if (X3_hasMan 23 x2 M) = true then
      if x1 = x2 then
        some ((-1), M)
      else
      if x4 < 1 then
        some ((-1), M)
      else
      if 99 < x4 then
        some ((-1), M)
      else
      if x4 ≤ (X9_purseOf 35 x1 x3 M) then
        lt_ (X9_addToPurse 35 x1 x3 (-x4) M) fun M7 =>
        lt_ (X9_addToPurse 35 x2 x3 x4 M7) fun M8 =>
        bo_ (X0_keep M8) fun M9 =>
        some ((X9_purseOf 35 x2 x3 M9), M9)
      else
      some ((-1), M)
    else
    some ((-1), M)
  else
  some ((-1), M)
set_option maxRecDepth 100000 in
set_option maxHeartbeats 4000000 in
theorem X11_give_ok (G : Gh) (x1 : Int32) (x2 : Int32) (x3 : Int32) (x4 : Int32) (M : Mem) : Mt G mi_X11_give [.ref (G.2.2.2 (0)), .int x1, .int x2, .int x3, .int x4] M ((dO dIM) (X11_give x1 x2 x3 x4 M)) := by
  refine Mt_of (lv := [some (.ref (G.2.2.2 (0))), some (.int x1), some (.int x2), some (.int x3), some (.int x4)]) (by decide) rfl (Nat.le_of_ble_eq_true rfl) rfl ?_
  unfold X11_give
  refine r_aload_n dX11_give_0 rfl ?_
  refine r_getf (v := .ref (G.2.2.2 (23))) dX11_give_1 fX_0_2 kX11 (by decide) lkf_X11_28 rfl ?_
  refine r_iload_n dX11_give_4 rfl ?_
  refine r_iload_n dX11_give_5 rfl ?_
  refine c_Z (inv_V (mi := mi_X11_give) (b := 23) (rest := []) (X3_hasPair_ok_23 G x1 x3 M) rfl (by decide) dX11_give_6 lkm_X11_150 cal_X3_hasPair cX_23 rfl rfl (Nat.le_of_ble_eq_true rfl) rfl) ?_
  refine r_ifz_eq (tgt := 28) dX11_give_9 rfl (fun h1 => ?_) (fun h1 => ?_)
  · refine r_aload_n dX11_give_12 rfl ?_
    refine r_getf (v := .ref (G.2.2.2 (23))) dX11_give_13 fX_0_2 kX11 (by decide) lkf_X11_28 rfl ?_
    refine r_iload_n dX11_give_16 rfl ?_
    refine c_Z (inv_V (mi := mi_X11_give) (b := 23) (rest := []) (X3_hasMan_ok_23 G x2 M) rfl (by decide) dX11_give_17 lkm_X11_119 cal_X3_hasMan cX_23 rfl rfl (Nat.le_of_ble_eq_true rfl) rfl) ?_
    refine r_ifz_eq (tgt := 28) dX11_give_20 rfl (fun h2 => ?_) (fun h2 => ?_)
    · refine r_iload_n dX11_give_23 rfl ?_
      refine r_iload_n dX11_give_24 rfl ?_
      refine r_icmp_ne (tgt := 30) dX11_give_25 rfl (fun h3 => ?_) (fun h3 => ?_)
      · refine r_iconst (x := (-1)) dX11_give_28 rfl ?_
        exact r_iret (ty := .int) dX11_give_29 rfl rfl rfl
      refine r_iload dX11_give_30 rfl ?_
      refine r_iconst (x := 1) dX11_give_32 rfl ?_
      refine r_icmp_lt (tgt := 57) dX11_give_33 rfl (fun h4 => ?_) (fun h4 => ?_)
      · refine r_iconst (x := (-1)) dX11_give_57 rfl ?_
        exact r_iret (ty := .int) dX11_give_58 rfl rfl rfl
      refine r_iload dX11_give_36 rfl ?_
      refine r_bipush (x := 99) dX11_give_38 rfl ?_
      refine r_icmp_gt (tgt := 57) dX11_give_40 rfl (fun h5 => ?_) (fun h5 => ?_)
      · refine r_iconst (x := (-1)) dX11_give_57 rfl ?_
        exact r_iret (ty := .int) dX11_give_58 rfl rfl rfl
      refine r_iload dX11_give_43 rfl ?_
      refine r_aload_n dX11_give_45 rfl ?_
      refine r_getf (v := .ref (G.2.2.2 (35))) dX11_give_46 fX_0_3 kX11 (by decide) lkf_X11_37 rfl ?_
      refine r_iload_n dX11_give_49 rfl ?_
      refine r_iload_n dX11_give_50 rfl ?_
      refine c_I (inv_V (mi := mi_X11_give) (b := 35) (rest := [.int x4]) (X9_purseOf_ok_35 G x1 x3 M) rfl (by decide) dX11_give_51 lkm_X11_154 cal_X9_purseOf cX_35 rfl rfl (Nat.le_of_ble_eq_true rfl) rfl) ?_
      refine r_icmp_le (tgt := 59) dX11_give_54 rfl (fun h6 => ?_) (fun h6 => ?_)
      · refine r_aload_n dX11_give_59 rfl ?_
        refine r_getf (v := .ref (G.2.2.2 (35))) dX11_give_60 fX_0_3 kX11 (by decide) lkf_X11_37 rfl ?_
        refine r_iload_n dX11_give_63 rfl ?_
        refine r_iload_n dX11_give_64 rfl ?_
        refine r_iload dX11_give_65 rfl ?_
        refine r_ineg dX11_give_67 ?_
        refine c_V (inv_V (mi := mi_X11_give) (b := 35) (rest := []) (X9_addToPurse_ok_35 G x1 x3 (-x4) M) rfl (by decide) dX11_give_68 lkm_X11_177 cal_X9_addToPurse cX_35 rfl rfl (Nat.le_of_ble_eq_true rfl) rfl) (fun M7 => ?_)
        refine r_aload_n dX11_give_71 rfl ?_
        refine r_getf (v := .ref (G.2.2.2 (35))) dX11_give_72 fX_0_3 kX11 (by decide) lkf_X11_37 rfl ?_
        refine r_iload_n dX11_give_75 rfl ?_
        refine r_iload_n dX11_give_76 rfl ?_
        refine r_iload dX11_give_77 rfl ?_
        refine c_V (inv_V (mi := mi_X11_give) (b := 35) (rest := []) (X9_addToPurse_ok_35 G x2 x3 x4 M7) rfl (by decide) dX11_give_79 lkm_X11_177 cal_X9_addToPurse cX_35 rfl rfl (Nat.le_of_ble_eq_true rfl) rfl) (fun M8 => ?_)
        refine r_aload_n dX11_give_82 rfl ?_
        refine r_getf (v := .ref (G.2.2.2 (39))) dX11_give_83 fX_0_4 kX11 (by decide) lkf_X11_46 rfl ?_
        refine c_OV rfl (inv_V (mi := mi_X11_give) (b := 39) (rest := []) (X0_keep_ok G M8) rfl (by decide) dX11_give_86 lkm_X11_174 cal_X0_keep cX_39 rfl rfl (Nat.le_of_ble_eq_true rfl) rfl) (fun M9 => ?_)
        refine r_aload_n dX11_give_89 rfl ?_
        refine r_getf (v := .ref (G.2.2.2 (35))) dX11_give_90 fX_0_3 kX11 (by decide) lkf_X11_37 rfl ?_
        refine r_iload_n dX11_give_93 rfl ?_
        refine r_iload_n dX11_give_94 rfl ?_
        refine c_I (inv_V (mi := mi_X11_give) (b := 35) (rest := []) (X9_purseOf_ok_35 G x2 x3 M9) rfl (by decide) dX11_give_95 lkm_X11_154 cal_X9_purseOf cX_35 rfl rfl (Nat.le_of_ble_eq_true rfl) rfl) ?_
        exact r_iret (ty := .int) dX11_give_98 rfl rfl rfl
      refine r_iconst (x := (-1)) dX11_give_57 rfl ?_
      exact r_iret (ty := .int) dX11_give_58 rfl rfl rfl
    refine r_iconst (x := (-1)) dX11_give_28 rfl ?_
    exact r_iret (ty := .int) dX11_give_29 rfl rfl rfl
  refine r_iconst (x := (-1)) dX11_give_28 rfl ?_
  exact r_iret (ty := .int) dX11_give_29 rfl rfl rfl

theorem dX3_rateGot_0 : decode cX3_rateGot 0 = .ok (.aload_n 0, 1) := by decide +kernel
theorem dX3_rateGot_1 : decode cX3_rateGot 1 = .ok (.getfield 30, 3) := by decide +kernel
theorem dX3_rateGot_4 : decode cX3_rateGot 4 = .ok (.iload_n 1, 1) := by decide +kernel
theorem dX3_rateGot_5 : decode cX3_rateGot 5 = .ok (.iconst 3, 1) := by decide +kernel
theorem dX3_rateGot_6 : decode cX3_rateGot 6 = .ok (.imul, 1) := by decide +kernel
theorem dX3_rateGot_7 : decode cX3_rateGot 7 = .ok (.iload_n 2, 1) := by decide +kernel
theorem dX3_rateGot_8 : decode cX3_rateGot 8 = .ok (.iadd, 1) := by decide +kernel
theorem dX3_rateGot_9 : decode cX3_rateGot 9 = .ok (.invokestatic 94, 3) := by decide +kernel
theorem dX3_rateGot_12 : decode cX3_rateGot 12 = .ok (.ireturn, 1) := by decide +kernel
abbrev mi_X3_rateGot : MI := (zTX, RX3, yX3_rateGot, cX3_rateGot, 3, (some .int), 3)
theorem cal_X3_rateGot : zCalV mi_X3_rateGot 2 := ⟨⟨zTB_i4 200 (by decide +kernel), zTB_i4 198 (by decide +kernel), zTB_i4 199 (by decide +kernel), zTB_i1 4 (by decide +kernel)⟩, ⟨by decide, by decide, by decide +kernel⟩, by decide⟩
noncomputable def X3_rateGot (o0 : Nat) (x1 : Int32) (x2 : Int32) (M : Mem) : Int32 :=
  (X11_cell (o0 + 7) ((x1 * 3) + x2) M)
set_option maxRecDepth 100000 in
set_option maxHeartbeats 4000000 in
theorem X3_rateGot_ok_4 (G : Gh) (x1 : Int32) (x2 : Int32) (M : Mem) : Mt G mi_X3_rateGot [.ref (G.2.2.2 (4)), .int x1, .int x2] M ((dI M) (X3_rateGot 4 x1 x2 M)) := by
  refine Mt_of (lv := [some (.ref (G.2.2.2 (4))), some (.int x1), some (.int x2)]) (by decide) rfl (Nat.le_of_ble_eq_true rfl) rfl ?_
  unfold X3_rateGot
  refine r_aload_n dX3_rateGot_0 rfl ?_
  refine r_getf (v := .ref (G.2.2.2 (4 + 7))) dX3_rateGot_1 fX_4_12 kX3 (by decide) lkf_X3_30 rfl ?_
  refine r_iload_n dX3_rateGot_4 rfl ?_
  refine r_iconst (x := 3) dX3_rateGot_5 rfl ?_
  refine r_imul dX3_rateGot_6 ?_
  refine r_iload_n dX3_rateGot_7 rfl ?_
  refine r_iadd dX3_rateGot_8 ?_
  refine c_I (inv_SN (mi := mi_X3_rateGot) (rest := []) (X11_cell_ok G aX_11p ((x1 * 3) + x2) M) rfl (by decide) dX3_rateGot_9 lkm_X3_94 cal_X11_cell rfl (Nat.le_of_ble_eq_true rfl) rfl) ?_
  exact r_iret (ty := .int) dX3_rateGot_12 rfl rfl rfl
set_option maxRecDepth 100000 in
set_option maxHeartbeats 4000000 in
theorem X3_rateGot_ok_23 (G : Gh) (x1 : Int32) (x2 : Int32) (M : Mem) : Mt G mi_X3_rateGot [.ref (G.2.2.2 (23)), .int x1, .int x2] M ((dI M) (X3_rateGot 23 x1 x2 M)) := by
  refine Mt_of (lv := [some (.ref (G.2.2.2 (23))), some (.int x1), some (.int x2)]) (by decide) rfl (Nat.le_of_ble_eq_true rfl) rfl ?_
  unfold X3_rateGot
  refine r_aload_n dX3_rateGot_0 rfl ?_
  refine r_getf (v := .ref (G.2.2.2 (23 + 7))) dX3_rateGot_1 fX_23_12 kX3 (by decide) lkf_X3_30 rfl ?_
  refine r_iload_n dX3_rateGot_4 rfl ?_
  refine r_iconst (x := 3) dX3_rateGot_5 rfl ?_
  refine r_imul dX3_rateGot_6 ?_
  refine r_iload_n dX3_rateGot_7 rfl ?_
  refine r_iadd dX3_rateGot_8 ?_
  refine c_I (inv_SN (mi := mi_X3_rateGot) (rest := []) (X11_cell_ok G aX_30p ((x1 * 3) + x2) M) rfl (by decide) dX3_rateGot_9 lkm_X3_94 cal_X11_cell rfl (Nat.le_of_ble_eq_true rfl) rfl) ?_
  exact r_iret (ty := .int) dX3_rateGot_12 rfl rfl rfl

theorem dX11_change_0 : decode cX11_change 0 = .ok (.aload_n 0, 1) := by decide +kernel
theorem dX11_change_1 : decode cX11_change 1 = .ok (.getfield 28, 3) := by decide +kernel
theorem dX11_change_4 : decode cX11_change 4 = .ok (.iload_n 1, 1) := by decide +kernel
theorem dX11_change_5 : decode cX11_change 5 = .ok (.iload_n 2, 1) := by decide +kernel
theorem dX11_change_6 : decode cX11_change 6 = .ok (.invokevirtual 150, 3) := by decide +kernel
theorem dX11_change_9 : decode cX11_change 9 = .ok (.ifCond .eq 15, 3) := by decide +kernel
theorem dX11_change_12 : decode cX11_change 12 = .ok (.aload_n 0, 1) := by decide +kernel
theorem dX11_change_13 : decode cX11_change 13 = .ok (.getfield 28, 3) := by decide +kernel
theorem dX11_change_16 : decode cX11_change 16 = .ok (.iload_n 1, 1) := by decide +kernel
theorem dX11_change_17 : decode cX11_change 17 = .ok (.iload_n 3, 1) := by decide +kernel
theorem dX11_change_18 : decode cX11_change 18 = .ok (.invokevirtual 150, 3) := by decide +kernel
theorem dX11_change_21 : decode cX11_change 21 = .ok (.ifCond .ne 5, 3) := by decide +kernel
theorem dX11_change_24 : decode cX11_change 24 = .ok (.iconst (-1), 1) := by decide +kernel
theorem dX11_change_25 : decode cX11_change 25 = .ok (.ireturn, 1) := by decide +kernel
theorem dX11_change_26 : decode cX11_change 26 = .ok (.aload_n 0, 1) := by decide +kernel
theorem dX11_change_27 : decode cX11_change 27 = .ok (.getfield 28, 3) := by decide +kernel
theorem dX11_change_30 : decode cX11_change 30 = .ok (.iload_n 2, 1) := by decide +kernel
theorem dX11_change_31 : decode cX11_change 31 = .ok (.iload_n 3, 1) := by decide +kernel
theorem dX11_change_32 : decode cX11_change 32 = .ok (.invokevirtual 180, 3) := by decide +kernel
theorem dX11_change_35 : decode cX11_change 35 = .ok (.istore 4, 2) := by decide +kernel
theorem dX11_change_37 : decode cX11_change 37 = .ok (.iload 4, 2) := by decide +kernel
theorem dX11_change_39 : decode cX11_change 39 = .ok (.ifCond .eq 17, 3) := by decide +kernel
theorem dX11_change_42 : decode cX11_change 42 = .ok (.iload 4, 2) := by decide +kernel
theorem dX11_change_44 : decode cX11_change 44 = .ok (.aload_n 0, 1) := by decide +kernel
theorem dX11_change_45 : decode cX11_change 45 = .ok (.getfield 37, 3) := by decide +kernel
theorem dX11_change_48 : decode cX11_change 48 = .ok (.iload_n 1, 1) := by decide +kernel
theorem dX11_change_49 : decode cX11_change 49 = .ok (.iload_n 2, 1) := by decide +kernel
theorem dX11_change_50 : decode cX11_change 50 = .ok (.invokevirtual 154, 3) := by decide +kernel
theorem dX11_change_53 : decode cX11_change 53 = .ok (.if_icmp .le 5, 3) := by decide +kernel
theorem dX11_change_56 : decode cX11_change 56 = .ok (.iconst (-1), 1) := by decide +kernel
theorem dX11_change_57 : decode cX11_change 57 = .ok (.ireturn, 1) := by decide +kernel
theorem dX11_change_58 : decode cX11_change 58 = .ok (.aload_n 0, 1) := by decide +kernel
theorem dX11_change_59 : decode cX11_change 59 = .ok (.getfield 37, 3) := by decide +kernel
theorem dX11_change_62 : decode cX11_change 62 = .ok (.iload_n 1, 1) := by decide +kernel
theorem dX11_change_63 : decode cX11_change 63 = .ok (.iload_n 2, 1) := by decide +kernel
theorem dX11_change_64 : decode cX11_change 64 = .ok (.iload 4, 2) := by decide +kernel
theorem dX11_change_66 : decode cX11_change 66 = .ok (.ineg, 1) := by decide +kernel
theorem dX11_change_67 : decode cX11_change 67 = .ok (.invokevirtual 177, 3) := by decide +kernel
theorem dX11_change_70 : decode cX11_change 70 = .ok (.aload_n 0, 1) := by decide +kernel
theorem dX11_change_71 : decode cX11_change 71 = .ok (.getfield 37, 3) := by decide +kernel
theorem dX11_change_74 : decode cX11_change 74 = .ok (.iload_n 1, 1) := by decide +kernel
theorem dX11_change_75 : decode cX11_change 75 = .ok (.iload_n 3, 1) := by decide +kernel
theorem dX11_change_76 : decode cX11_change 76 = .ok (.aload_n 0, 1) := by decide +kernel
theorem dX11_change_77 : decode cX11_change 77 = .ok (.getfield 28, 3) := by decide +kernel
theorem dX11_change_80 : decode cX11_change 80 = .ok (.iload_n 2, 1) := by decide +kernel
theorem dX11_change_81 : decode cX11_change 81 = .ok (.iload_n 3, 1) := by decide +kernel
theorem dX11_change_82 : decode cX11_change 82 = .ok (.invokevirtual 183, 3) := by decide +kernel
theorem dX11_change_85 : decode cX11_change 85 = .ok (.invokevirtual 177, 3) := by decide +kernel
theorem dX11_change_88 : decode cX11_change 88 = .ok (.aload_n 0, 1) := by decide +kernel
theorem dX11_change_89 : decode cX11_change 89 = .ok (.getfield 46, 3) := by decide +kernel
theorem dX11_change_92 : decode cX11_change 92 = .ok (.invokevirtual 174, 3) := by decide +kernel
theorem dX11_change_95 : decode cX11_change 95 = .ok (.aload_n 0, 1) := by decide +kernel
theorem dX11_change_96 : decode cX11_change 96 = .ok (.getfield 37, 3) := by decide +kernel
theorem dX11_change_99 : decode cX11_change 99 = .ok (.iload_n 1, 1) := by decide +kernel
theorem dX11_change_100 : decode cX11_change 100 = .ok (.iload_n 3, 1) := by decide +kernel
theorem dX11_change_101 : decode cX11_change 101 = .ok (.invokevirtual 154, 3) := by decide +kernel
theorem dX11_change_104 : decode cX11_change 104 = .ok (.ireturn, 1) := by decide +kernel
abbrev mi_X11_change : MI := (zTX, RX11, yX11_change, cX11_change, 5, (some .int), 10)
theorem cal_X11_change : zCalV mi_X11_change 3 := ⟨⟨zTB_i4 195 (by decide +kernel), zTB_i4 193 (by decide +kernel), zTB_i4 194 (by decide +kernel), zTB_i1 1 (by decide +kernel)⟩, ⟨by decide, by decide, by decide +kernel⟩, by decide⟩
noncomputable def X11_change (x1 : Int32) (x2 : Int32) (x3 : Int32) (M : Mem) : Option (Int32 × Mem) :=
  if (X3_hasPair 23 x1 x2 M) = true then
    if (X3_hasPair 23 x1 x3 M) = true then
      lt_ (α := Int32) ((X3_rateGiven 23 x2 x3 M)) fun y3 =>
      if y3 = 0 then
        some ((-1), M)
      else
      if y3 ≤ (X9_purseOf 35 x1 x2 M) then
        lt_ (X9_addToPurse 35 x1 x2 (-y3) M) fun M6 =>
        lt_ (X9_addToPurse 35 x1 x3 (X3_rateGot 23 x2 x3 M6) M6) fun M7 =>
        bo_ (X0_keep M7) fun M8 =>
        some ((X9_purseOf 35 x1 x3 M8), M8)
      else
      some ((-1), M)
    else
    some ((-1), M)
  else
  some ((-1), M)
set_option maxRecDepth 100000 in
set_option maxHeartbeats 4000000 in
theorem X11_change_ok (G : Gh) (x1 : Int32) (x2 : Int32) (x3 : Int32) (M : Mem) : Mt G mi_X11_change [.ref (G.2.2.2 (0)), .int x1, .int x2, .int x3] M ((dO dIM) (X11_change x1 x2 x3 M)) := by
  refine Mt_of (lv := [some (.ref (G.2.2.2 (0))), some (.int x1), some (.int x2), some (.int x3)]) (by decide) rfl (Nat.le_of_ble_eq_true rfl) rfl ?_
  refine r_le (lv' := [some (.ref (G.2.2.2 (0))), some (.int x1), some (.int x2), some (.int x3), none]) (And.intro rfl (And.intro rfl (And.intro rfl (And.intro rfl True.intro)))) ?_
  unfold X11_change
  refine r_aload_n dX11_change_0 rfl ?_
  refine r_getf (v := .ref (G.2.2.2 (23))) dX11_change_1 fX_0_2 kX11 (by decide) lkf_X11_28 rfl ?_
  refine r_iload_n dX11_change_4 rfl ?_
  refine r_iload_n dX11_change_5 rfl ?_
  refine c_Z (inv_V (mi := mi_X11_change) (b := 23) (rest := []) (X3_hasPair_ok_23 G x1 x2 M) rfl (by decide) dX11_change_6 lkm_X11_150 cal_X3_hasPair cX_23 rfl rfl (Nat.le_of_ble_eq_true rfl) rfl) ?_
  refine r_ifz_eq (tgt := 24) dX11_change_9 rfl (fun h1 => ?_) (fun h1 => ?_)
  · refine r_aload_n dX11_change_12 rfl ?_
    refine r_getf (v := .ref (G.2.2.2 (23))) dX11_change_13 fX_0_2 kX11 (by decide) lkf_X11_28 rfl ?_
    refine r_iload_n dX11_change_16 rfl ?_
    refine r_iload_n dX11_change_17 rfl ?_
    refine c_Z (inv_V (mi := mi_X11_change) (b := 23) (rest := []) (X3_hasPair_ok_23 G x1 x3 M) rfl (by decide) dX11_change_18 lkm_X11_150 cal_X3_hasPair cX_23 rfl rfl (Nat.le_of_ble_eq_true rfl) rfl) ?_
    refine r_ifz_ne (tgt := 26) dX11_change_21 rfl (fun h2 => ?_) (fun h2 => ?_)
    · refine r_aload_n dX11_change_26 rfl ?_
      refine r_getf (v := .ref (G.2.2.2 (23))) dX11_change_27 fX_0_2 kX11 (by decide) lkf_X11_28 rfl ?_
      refine r_iload_n dX11_change_30 rfl ?_
      refine r_iload_n dX11_change_31 rfl ?_
      refine c_I (inv_V (mi := mi_X11_change) (b := 23) (rest := []) (X3_rateGiven_ok_23 G x2 x3 M) rfl (by decide) dX11_change_32 lkm_X11_180 cal_X3_rateGiven cX_23 rfl rfl (Nat.le_of_ble_eq_true rfl) rfl) ?_
      refine r_letI (fun y3 => ?_)
      refine r_istore (lv' := [some (.ref (G.2.2.2 (0))), some (.int x1), some (.int x2), some (.int x3), some (.int y3)]) dX11_change_35 (Nat.le_of_ble_eq_true rfl) rfl rfl ?_
      refine r_iload dX11_change_37 rfl ?_
      refine r_if_eq (tgt := 56) dX11_change_39 rfl (fun h4 => ?_) (fun h4 => ?_)
      · refine r_iconst (x := (-1)) dX11_change_56 rfl ?_
        exact r_iret (ty := .int) dX11_change_57 rfl rfl rfl
      refine r_iload dX11_change_42 rfl ?_
      refine r_aload_n dX11_change_44 rfl ?_
      refine r_getf (v := .ref (G.2.2.2 (35))) dX11_change_45 fX_0_3 kX11 (by decide) lkf_X11_37 rfl ?_
      refine r_iload_n dX11_change_48 rfl ?_
      refine r_iload_n dX11_change_49 rfl ?_
      refine c_I (inv_V (mi := mi_X11_change) (b := 35) (rest := [.int y3]) (X9_purseOf_ok_35 G x1 x2 M) rfl (by decide) dX11_change_50 lkm_X11_154 cal_X9_purseOf cX_35 rfl rfl (Nat.le_of_ble_eq_true rfl) rfl) ?_
      refine r_icmp_le (tgt := 58) dX11_change_53 rfl (fun h5 => ?_) (fun h5 => ?_)
      · refine r_aload_n dX11_change_58 rfl ?_
        refine r_getf (v := .ref (G.2.2.2 (35))) dX11_change_59 fX_0_3 kX11 (by decide) lkf_X11_37 rfl ?_
        refine r_iload_n dX11_change_62 rfl ?_
        refine r_iload_n dX11_change_63 rfl ?_
        refine r_iload dX11_change_64 rfl ?_
        refine r_ineg dX11_change_66 ?_
        refine c_V (inv_V (mi := mi_X11_change) (b := 35) (rest := []) (X9_addToPurse_ok_35 G x1 x2 (-y3) M) rfl (by decide) dX11_change_67 lkm_X11_177 cal_X9_addToPurse cX_35 rfl rfl (Nat.le_of_ble_eq_true rfl) rfl) (fun M6 => ?_)
        refine r_aload_n dX11_change_70 rfl ?_
        refine r_getf (v := .ref (G.2.2.2 (35))) dX11_change_71 fX_0_3 kX11 (by decide) lkf_X11_37 rfl ?_
        refine r_iload_n dX11_change_74 rfl ?_
        refine r_iload_n dX11_change_75 rfl ?_
        refine r_aload_n dX11_change_76 rfl ?_
        refine r_getf (v := .ref (G.2.2.2 (23))) dX11_change_77 fX_0_2 kX11 (by decide) lkf_X11_28 rfl ?_
        refine r_iload_n dX11_change_80 rfl ?_
        refine r_iload_n dX11_change_81 rfl ?_
        refine c_I (inv_V (mi := mi_X11_change) (b := 23) (rest := [.int x3, .int x1, .ref (G.2.2.2 (35))]) (X3_rateGot_ok_23 G x2 x3 M6) rfl (by decide) dX11_change_82 lkm_X11_183 cal_X3_rateGot cX_23 rfl rfl (Nat.le_of_ble_eq_true rfl) rfl) ?_
        refine c_V (inv_V (mi := mi_X11_change) (b := 35) (rest := []) (X9_addToPurse_ok_35 G x1 x3 (X3_rateGot 23 x2 x3 M6) M6) rfl (by decide) dX11_change_85 lkm_X11_177 cal_X9_addToPurse cX_35 rfl rfl (Nat.le_of_ble_eq_true rfl) rfl) (fun M7 => ?_)
        refine r_aload_n dX11_change_88 rfl ?_
        refine r_getf (v := .ref (G.2.2.2 (39))) dX11_change_89 fX_0_4 kX11 (by decide) lkf_X11_46 rfl ?_
        refine c_OV rfl (inv_V (mi := mi_X11_change) (b := 39) (rest := []) (X0_keep_ok G M7) rfl (by decide) dX11_change_92 lkm_X11_174 cal_X0_keep cX_39 rfl rfl (Nat.le_of_ble_eq_true rfl) rfl) (fun M8 => ?_)
        refine r_aload_n dX11_change_95 rfl ?_
        refine r_getf (v := .ref (G.2.2.2 (35))) dX11_change_96 fX_0_3 kX11 (by decide) lkf_X11_37 rfl ?_
        refine r_iload_n dX11_change_99 rfl ?_
        refine r_iload_n dX11_change_100 rfl ?_
        refine c_I (inv_V (mi := mi_X11_change) (b := 35) (rest := []) (X9_purseOf_ok_35 G x1 x3 M8) rfl (by decide) dX11_change_101 lkm_X11_154 cal_X9_purseOf cX_35 rfl rfl (Nat.le_of_ble_eq_true rfl) rfl) ?_
        exact r_iret (ty := .int) dX11_change_104 rfl rfl rfl
      refine r_iconst (x := (-1)) dX11_change_56 rfl ?_
      exact r_iret (ty := .int) dX11_change_57 rfl rfl rfl
    refine r_iconst (x := (-1)) dX11_change_24 rfl ?_
    exact r_iret (ty := .int) dX11_change_25 rfl rfl rfl
  refine r_iconst (x := (-1)) dX11_change_24 rfl ?_
  exact r_iret (ty := .int) dX11_change_25 rfl rfl rfl

theorem dX9_seedNow_0 : decode cX9_seedNow 0 = .ok (.aload_n 0, 1) := by decide +kernel
theorem dX9_seedNow_1 : decode cX9_seedNow 1 = .ok (.getfield 11, 3) := by decide +kernel
theorem dX9_seedNow_4 : decode cX9_seedNow 4 = .ok (.bipush 41, 2) := by decide +kernel
theorem dX9_seedNow_6 : decode cX9_seedNow 6 = .ok (.invokestatic 36, 3) := by decide +kernel
theorem dX9_seedNow_9 : decode cX9_seedNow 9 = .ok (.ireturn, 1) := by decide +kernel
abbrev mi_X9_seedNow : MI := (zTX, RX9, yX9_seedNow, cX9_seedNow, 1, (some .int), 3)
theorem cal_X9_seedNow : zCalV mi_X9_seedNow 0 := ⟨⟨zTB_i4 218 (by decide +kernel), zTB_i4 216 (by decide +kernel), zTB_i4 217 (by decide +kernel), zTB_i1 8 (by decide +kernel)⟩, ⟨by decide, by decide, by decide +kernel⟩, by decide⟩
noncomputable def X9_seedNow (o0 : Nat) (M : Mem) : Int32 :=
  (X11_cell (o0 + 1) 41 M)
set_option maxRecDepth 100000 in
set_option maxHeartbeats 4000000 in
theorem X9_seedNow_ok_35 (G : Gh) (M : Mem) : Mt G mi_X9_seedNow [.ref (G.2.2.2 (35))] M ((dI M) (X9_seedNow 35 M)) := by
  refine Mt_of (lv := [some (.ref (G.2.2.2 (35)))]) (by decide) rfl (Nat.le_of_ble_eq_true rfl) rfl ?_
  unfold X9_seedNow
  refine r_aload_n dX9_seedNow_0 rfl ?_
  refine r_getf (v := .ref (G.2.2.2 (35 + 1))) dX9_seedNow_1 fX_35_1 kX9 (by decide) lkf_X9_11 rfl ?_
  refine r_bipush (x := 41) dX9_seedNow_4 rfl ?_
  refine c_I (inv_SN (mi := mi_X9_seedNow) (rest := []) (X11_cell_ok G aX_36p 41 M) rfl (by decide) dX9_seedNow_6 lkm_X9_36 cal_X11_cell rfl (Nat.le_of_ble_eq_true rfl) rfl) ?_
  exact r_iret (ty := .int) dX9_seedNow_9 rfl rfl rfl
set_option maxRecDepth 100000 in
set_option maxHeartbeats 4000000 in
theorem X9_seedNow_ok_42 (G : Gh) (M : Mem) : Mt G mi_X9_seedNow [.ref (G.2.2.2 (42))] M ((dI M) (X9_seedNow 42 M)) := by
  refine Mt_of (lv := [some (.ref (G.2.2.2 (42)))]) (by decide) rfl (Nat.le_of_ble_eq_true rfl) rfl ?_
  unfold X9_seedNow
  refine r_aload_n dX9_seedNow_0 rfl ?_
  refine r_getf (v := .ref (G.2.2.2 (42 + 1))) dX9_seedNow_1 fX_42_1 kX9 (by decide) lkf_X9_11 rfl ?_
  refine r_bipush (x := 41) dX9_seedNow_4 rfl ?_
  refine c_I (inv_SN (mi := mi_X9_seedNow) (rest := []) (X11_cell_ok G aX_43p 41 M) rfl (by decide) dX9_seedNow_6 lkm_X9_36 cal_X11_cell rfl (Nat.le_of_ble_eq_true rfl) rfl) ?_
  exact r_iret (ty := .int) dX9_seedNow_9 rfl rfl rfl

theorem dX9_spendLoose_0 : decode cX9_spendLoose 0 = .ok (.iconst 0, 1) := by decide +kernel
theorem dX9_spendLoose_1 : decode cX9_spendLoose 1 = .ok (.istore_n 1, 1) := by decide +kernel
theorem dX9_spendLoose_2 : decode cX9_spendLoose 2 = .ok (.iload_n 1, 1) := by decide +kernel
theorem dX9_spendLoose_3 : decode cX9_spendLoose 3 = .ok (.aload_n 0, 1) := by decide +kernel
theorem dX9_spendLoose_4 : decode cX9_spendLoose 4 = .ok (.getfield 23, 3) := by decide +kernel
theorem dX9_spendLoose_7 : decode cX9_spendLoose 7 = .ok (.getfield 40, 3) := by decide +kernel
theorem dX9_spendLoose_10 : decode cX9_spendLoose 10 = .ok (.if_icmp .ge 91, 3) := by decide +kernel
theorem dX9_spendLoose_13 : decode cX9_spendLoose 13 = .ok (.aload_n 0, 1) := by decide +kernel
theorem dX9_spendLoose_14 : decode cX9_spendLoose 14 = .ok (.getfield 23, 3) := by decide +kernel
theorem dX9_spendLoose_17 : decode cX9_spendLoose 17 = .ok (.iload_n 1, 1) := by decide +kernel
theorem dX9_spendLoose_18 : decode cX9_spendLoose 18 = .ok (.invokevirtual 124, 3) := by decide +kernel
theorem dX9_spendLoose_21 : decode cX9_spendLoose 21 = .ok (.ifCond .eq 74, 3) := by decide +kernel
theorem dX9_spendLoose_24 : decode cX9_spendLoose 24 = .ok (.aload_n 0, 1) := by decide +kernel
theorem dX9_spendLoose_25 : decode cX9_spendLoose 25 = .ok (.invokevirtual 127, 3) := by decide +kernel
theorem dX9_spendLoose_28 : decode cX9_spendLoose 28 = .ok (.sipush 137, 3) := by decide +kernel
theorem dX9_spendLoose_31 : decode cX9_spendLoose 31 = .ok (.imul, 1) := by decide +kernel
theorem dX9_spendLoose_32 : decode cX9_spendLoose 32 = .ok (.bipush 71, 2) := by decide +kernel
theorem dX9_spendLoose_34 : decode cX9_spendLoose 34 = .ok (.iadd, 1) := by decide +kernel
theorem dX9_spendLoose_35 : decode cX9_spendLoose 35 = .ok (.sipush 1000, 3) := by decide +kernel
theorem dX9_spendLoose_38 : decode cX9_spendLoose 38 = .ok (.irem, 1) := by decide +kernel
theorem dX9_spendLoose_39 : decode cX9_spendLoose 39 = .ok (.istore_n 2, 1) := by decide +kernel
theorem dX9_spendLoose_40 : decode cX9_spendLoose 40 = .ok (.aload_n 0, 1) := by decide +kernel
theorem dX9_spendLoose_41 : decode cX9_spendLoose 41 = .ok (.getfield 11, 3) := by decide +kernel
theorem dX9_spendLoose_44 : decode cX9_spendLoose 44 = .ok (.bipush 41, 2) := by decide +kernel
theorem dX9_spendLoose_46 : decode cX9_spendLoose 46 = .ok (.iload_n 2, 1) := by decide +kernel
theorem dX9_spendLoose_47 : decode cX9_spendLoose 47 = .ok (.invokestatic 27, 3) := by decide +kernel
theorem dX9_spendLoose_50 : decode cX9_spendLoose 50 = .ok (.aload_n 0, 1) := by decide +kernel
theorem dX9_spendLoose_51 : decode cX9_spendLoose 51 = .ok (.getfield 23, 3) := by decide +kernel
theorem dX9_spendLoose_54 : decode cX9_spendLoose 54 = .ok (.getfield 67, 3) := by decide +kernel
theorem dX9_spendLoose_57 : decode cX9_spendLoose 57 = .ok (.ifCond .le 15, 3) := by decide +kernel
theorem dX9_spendLoose_60 : decode cX9_spendLoose 60 = .ok (.iload_n 2, 1) := by decide +kernel
theorem dX9_spendLoose_61 : decode cX9_spendLoose 61 = .ok (.aload_n 0, 1) := by decide +kernel
theorem dX9_spendLoose_62 : decode cX9_spendLoose 62 = .ok (.getfield 23, 3) := by decide +kernel
theorem dX9_spendLoose_65 : decode cX9_spendLoose 65 = .ok (.getfield 67, 3) := by decide +kernel
theorem dX9_spendLoose_68 : decode cX9_spendLoose 68 = .ok (.irem, 1) := by decide +kernel
theorem dX9_spendLoose_69 : decode cX9_spendLoose 69 = .ok (.goto 4, 3) := by decide +kernel
theorem dX9_spendLoose_72 : decode cX9_spendLoose 72 = .ok (.iconst (-1), 1) := by decide +kernel
theorem dX9_spendLoose_73 : decode cX9_spendLoose 73 = .ok (.istore_n 3, 1) := by decide +kernel
theorem dX9_spendLoose_74 : decode cX9_spendLoose 74 = .ok (.iload_n 3, 1) := by decide +kernel
theorem dX9_spendLoose_75 : decode cX9_spendLoose 75 = .ok (.iconst (-1), 1) := by decide +kernel
theorem dX9_spendLoose_76 : decode cX9_spendLoose 76 = .ok (.if_icmp .eq 19, 3) := by decide +kernel
theorem dX9_spendLoose_79 : decode cX9_spendLoose 79 = .ok (.aload_n 0, 1) := by decide +kernel
theorem dX9_spendLoose_80 : decode cX9_spendLoose 80 = .ok (.iload_n 1, 1) := by decide +kernel
theorem dX9_spendLoose_81 : decode cX9_spendLoose 81 = .ok (.iload_n 3, 1) := by decide +kernel
theorem dX9_spendLoose_82 : decode cX9_spendLoose 82 = .ok (.invokevirtual 70, 3) := by decide +kernel
theorem dX9_spendLoose_85 : decode cX9_spendLoose 85 = .ok (.ifCond .le 10, 3) := by decide +kernel
theorem dX9_spendLoose_88 : decode cX9_spendLoose 88 = .ok (.aload_n 0, 1) := by decide +kernel
theorem dX9_spendLoose_89 : decode cX9_spendLoose 89 = .ok (.iload_n 1, 1) := by decide +kernel
theorem dX9_spendLoose_90 : decode cX9_spendLoose 90 = .ok (.iload_n 3, 1) := by decide +kernel
theorem dX9_spendLoose_91 : decode cX9_spendLoose 91 = .ok (.iconst 1, 1) := by decide +kernel
theorem dX9_spendLoose_92 : decode cX9_spendLoose 92 = .ok (.invokevirtual 130, 3) := by decide +kernel
theorem dX9_spendLoose_95 : decode cX9_spendLoose 95 = .ok (.iinc 1 1, 3) := by decide +kernel
theorem dX9_spendLoose_98 : decode cX9_spendLoose 98 = .ok (.goto (-96), 3) := by decide +kernel
theorem dX9_spendLoose_101 : decode cX9_spendLoose 101 = .ok (.return_, 1) := by decide +kernel
abbrev mi_X9_spendLoose : MI := (zTX, RX9, yX9_spendLoose, cX9_spendLoose, 4, none, 10)
theorem cal_X9_spendLoose : zCalV mi_X9_spendLoose 0 := ⟨⟨zTB_i4 213 (by decide +kernel), zTB_i4 212 (by decide +kernel), zTB_i0 26 (by decide +kernel), zTB_i1 8 (by decide +kernel)⟩, ⟨by decide, by decide, by decide +kernel⟩, by decide⟩
noncomputable def X9_spendLoose_L1 (o0 : Nat) : Nat → Int32 → Mem → Option (Mem)
  | 0, _, _ => none
  | n + 1, c1, M =>
    if (M.1 23 0) ≤ c1 then
      some M
    else
    b1_ (α := Mem) (
      if (X3_isLoose 23 c1 M) = true then
        lt_ (α := Int32) ((((X9_seedNow o0 M) * 137) + 71) % 1000) fun y3 =>
        lt_ (X11_put (o0 + 1) 41 y3 M) fun M4 =>
        b1_ (α := Int32) (
          if (M4.1 23 1) ≤ 0 then
            some (-1)
          else
          gd_ (¬ (M4.1 23 1) = 0) (
          some (y3 % (M4.1 23 1)))) fun y7 =>
        if y7 = (-1) then
          some M4
        else
        if (X9_purseOf o0 c1 y7 M4) ≤ 0 then
          some M4
        else
        bo_ (X9_spendHours o0 c1 y7 1 M4) fun M10 =>
        some M10
      else
      some M) fun M11 =>
    X9_spendLoose_L1 o0 n (c1 + 1) M11
noncomputable def X9_spendLoose (o0 : Nat) (M : Mem) : Option (Mem) :=
  b1_ (α := Mem) (X9_spendLoose_L1 o0 zFU 0 M) fun M12 =>
  some M12
set_option maxRecDepth 100000 in
set_option maxHeartbeats 4000000 in
theorem X9_spendLoose_L1_ok_35 (G : Gh) {dn : Option (Mem) → Option (Option Value × Mem)} (hs : dn none = none) (hx : ∀ (M12 : Mem), Wr G mi_X9_spendLoose dn 101 [none, none, none, none] [] M12 (some M12)) : ∀ (n : Nat) (c1 : Int32) (M : Mem), Wr G mi_X9_spendLoose dn 2 [some (.ref (G.2.2.2 (35))), some (.int c1), none, none] [] M (X9_spendLoose_L1 35 n c1 M) := by
  intro n
  induction n with
  | zero => intro c1 M; exact r_none (by exact hs)
  | succ n ih =>
    intro c1 M
    rw [X9_spendLoose_L1]
    refine r_iload_n dX9_spendLoose_2 rfl ?_
    refine r_aload_n dX9_spendLoose_3 rfl ?_
    refine r_getf (v := .ref (G.2.2.2 (23))) dX9_spendLoose_4 fX_35_0 kX9 (by decide) lkf_X9_23 rfl ?_
    refine r_getf (v := .int (M.1 23 0)) dX9_spendLoose_7 fX_23_0 kX3 (by decide) lkf_X9_40 rfl ?_
    refine r_icmp_ge (tgt := 101) dX9_spendLoose_10 rfl (fun h1 => ?_) (fun h1 => ?_)
    · exact r_lk (hx M) True.intro
    refine r_aload_n dX9_spendLoose_13 rfl ?_
    refine r_getf (v := .ref (G.2.2.2 (23))) dX9_spendLoose_14 fX_35_0 kX9 (by decide) lkf_X9_23 rfl ?_
    refine r_iload_n dX9_spendLoose_17 rfl ?_
    refine c_Z (inv_V (mi := mi_X9_spendLoose) (b := 23) (rest := []) (X3_isLoose_ok_23 G c1 M) rfl (by decide) dX9_spendLoose_18 lkm_X9_124 cal_X3_isLoose cX_23 rfl rfl (Nat.le_of_ble_eq_true rfl) rfl) ?_
    refine r_jB1 (j := 95) (lvj := fun M11 => [some (.ref (G.2.2.2 (35))), some (.int c1), none, none]) (stj := fun M11 => []) (Mj := fun M11 => M11) (fun M11 => ?_) (fun hj95 => ?_)
    · refine r_iinc (y := c1 + 1) (lv' := [some (.ref (G.2.2.2 (35))), some (.int (c1 + 1)), none, none]) dX9_spendLoose_95 rfl rfl (Nat.le_of_ble_eq_true rfl) rfl rfl ?_
      refine r_goto (tgt := 2) dX9_spendLoose_98 rfl ?_
      exact r_lk (ih (c1 + 1) M11) (And.intro rfl (And.intro rfl True.intro))
    refine r_ifz_eq (tgt := 95) dX9_spendLoose_21 rfl (fun h2 => ?_) (fun h2 => ?_)
    · refine r_aload_n dX9_spendLoose_24 rfl ?_
      refine c_I (inv_V (mi := mi_X9_spendLoose) (b := 35) (rest := []) (X9_seedNow_ok_35 G M) rfl (by decide) dX9_spendLoose_25 lkm_X9_127 cal_X9_seedNow cX_35 rfl rfl (Nat.le_of_ble_eq_true rfl) rfl) ?_
      refine r_sipush (x := 137) dX9_spendLoose_28 rfl ?_
      refine r_imul dX9_spendLoose_31 ?_
      refine r_bipush (x := 71) dX9_spendLoose_32 rfl ?_
      refine r_iadd dX9_spendLoose_34 ?_
      refine r_sipush (x := 1000) dX9_spendLoose_35 rfl ?_
      refine r_irem dX9_spendLoose_38 (by decide) ?_
      refine r_letI (fun y3 => ?_)
      refine r_istore_n (lv' := [some (.ref (G.2.2.2 (35))), some (.int c1), some (.int y3), none]) dX9_spendLoose_39 (Nat.le_of_ble_eq_true rfl) rfl rfl ?_
      refine r_aload_n dX9_spendLoose_40 rfl ?_
      refine r_getf (v := .ref (G.2.2.2 (35 + 1))) dX9_spendLoose_41 fX_35_1 kX9 (by decide) lkf_X9_11 rfl ?_
      refine r_bipush (x := 41) dX9_spendLoose_44 rfl ?_
      refine r_iload_n dX9_spendLoose_46 rfl ?_
      refine c_V (inv_SN (mi := mi_X9_spendLoose) (rest := []) (X11_put_ok G aX_36p 41 y3 M) rfl (by decide) dX9_spendLoose_47 lkm_X9_27 cal_X11_put rfl (Nat.le_of_ble_eq_true rfl) rfl) (fun M4 => ?_)
      refine r_aload_n dX9_spendLoose_50 rfl ?_
      refine r_getf (v := .ref (G.2.2.2 (23))) dX9_spendLoose_51 fX_35_0 kX9 (by decide) lkf_X9_23 rfl ?_
      refine r_getf (v := .int (M4.1 23 1)) dX9_spendLoose_54 fX_23_1 kX3 (by decide) lkf_X9_67 rfl ?_
      refine r_jB1 (j := 73) (lvj := fun y7 => [some (.ref (G.2.2.2 (35))), some (.int c1), none, none]) (stj := fun y7 => [.int y7]) (Mj := fun y7 => M4) (fun y7 => ?_) (fun hj73 => ?_)
      · refine r_istore_n (lv' := [some (.ref (G.2.2.2 (35))), some (.int c1), none, some (.int y7)]) dX9_spendLoose_73 (Nat.le_of_ble_eq_true rfl) rfl rfl ?_
        refine r_iload_n dX9_spendLoose_74 rfl ?_
        refine r_iconst (x := (-1)) dX9_spendLoose_75 rfl ?_
        refine r_icmp_eq (tgt := 95) dX9_spendLoose_76 rfl (fun h8 => ?_) (fun h8 => ?_)
        · exact r_lk (hj95 M4) (And.intro rfl (And.intro rfl True.intro))
        refine r_aload_n dX9_spendLoose_79 rfl ?_
        refine r_iload_n dX9_spendLoose_80 rfl ?_
        refine r_iload_n dX9_spendLoose_81 rfl ?_
        refine c_I (inv_V (mi := mi_X9_spendLoose) (b := 35) (rest := []) (X9_purseOf_ok_35 G c1 y7 M4) rfl (by decide) dX9_spendLoose_82 lkm_X9_70 cal_X9_purseOf cX_35 rfl rfl (Nat.le_of_ble_eq_true rfl) rfl) ?_
        refine r_if_le (tgt := 95) dX9_spendLoose_85 rfl (fun h9 => ?_) (fun h9 => ?_)
        · exact r_lk (hj95 M4) (And.intro rfl (And.intro rfl True.intro))
        refine r_aload_n dX9_spendLoose_88 rfl ?_
        refine r_iload_n dX9_spendLoose_89 rfl ?_
        refine r_iload_n dX9_spendLoose_90 rfl ?_
        refine r_iconst (x := 1) dX9_spendLoose_91 rfl ?_
        refine c_OV (by exact hs) (inv_V (mi := mi_X9_spendLoose) (b := 35) (rest := []) (X9_spendHours_ok_35 G c1 y7 1 M4) rfl (by decide) dX9_spendLoose_92 lkm_X9_130 cal_X9_spendHours cX_35 rfl rfl (Nat.le_of_ble_eq_true rfl) rfl) (fun M10 => ?_)
        exact r_lk (hj95 M10) (And.intro rfl (And.intro rfl True.intro))
      refine r_if_le (tgt := 72) dX9_spendLoose_57 rfl (fun h5 => ?_) (fun h5 => ?_)
      · refine r_iconst (x := (-1)) dX9_spendLoose_72 rfl ?_
        exact r_lk (hj73 (-1)) (And.intro rfl (And.intro rfl True.intro))
      refine r_iload_n dX9_spendLoose_60 rfl ?_
      refine r_aload_n dX9_spendLoose_61 rfl ?_
      refine r_getf (v := .ref (G.2.2.2 (23))) dX9_spendLoose_62 fX_35_0 kX9 (by decide) lkf_X9_23 rfl ?_
      refine r_getf (v := .int (M4.1 23 1)) dX9_spendLoose_65 fX_23_1 kX3 (by decide) lkf_X9_67 rfl ?_
      refine r_gd (by exact hs) (fun g6 => ?_)
      refine r_irem dX9_spendLoose_68 g6 ?_
      refine r_goto (tgt := 73) dX9_spendLoose_69 rfl ?_
      exact r_lk (hj73 (y3 % (M4.1 23 1))) (And.intro rfl (And.intro rfl True.intro))
    exact r_lk (hj95 M) (And.intro rfl (And.intro rfl True.intro))
set_option maxRecDepth 100000 in
set_option maxHeartbeats 4000000 in
theorem X9_spendLoose_ok_35 (G : Gh) (M : Mem) : Mt G mi_X9_spendLoose [.ref (G.2.2.2 (35))] M ((dO dV) (X9_spendLoose 35 M)) := by
  refine Mt_of (lv := [some (.ref (G.2.2.2 (35)))]) (by decide) rfl (Nat.le_of_ble_eq_true rfl) rfl ?_
  refine r_le (lv' := [some (.ref (G.2.2.2 (35))), none, none, none]) (And.intro rfl True.intro) ?_
  unfold X9_spendLoose
  refine r_iconst (x := 0) dX9_spendLoose_0 rfl ?_
  refine r_istore_n (lv' := [some (.ref (G.2.2.2 (35))), some (.int 0), none, none]) dX9_spendLoose_1 (Nat.le_of_ble_eq_true rfl) rfl rfl ?_
  refine r_jB1 (j := 101) (lvj := fun M12 => [none, none, none, none]) (stj := fun M12 => []) (Mj := fun M12 => M12) (fun M12 => ?_) (fun hj101 => ?_)
  · exact r_vret dX9_spendLoose_101 rfl rfl
  exact r_lk (X9_spendLoose_L1_ok_35 G rfl hj101 zFU 0 M) (And.intro rfl (And.intro rfl True.intro))
set_option maxRecDepth 100000 in
set_option maxHeartbeats 4000000 in
theorem X9_spendLoose_L1_ok_42 (G : Gh) {dn : Option (Mem) → Option (Option Value × Mem)} (hs : dn none = none) (hx : ∀ (M12 : Mem), Wr G mi_X9_spendLoose dn 101 [none, none, none, none] [] M12 (some M12)) : ∀ (n : Nat) (c1 : Int32) (M : Mem), Wr G mi_X9_spendLoose dn 2 [some (.ref (G.2.2.2 (42))), some (.int c1), none, none] [] M (X9_spendLoose_L1 42 n c1 M) := by
  intro n
  induction n with
  | zero => intro c1 M; exact r_none (by exact hs)
  | succ n ih =>
    intro c1 M
    rw [X9_spendLoose_L1]
    refine r_iload_n dX9_spendLoose_2 rfl ?_
    refine r_aload_n dX9_spendLoose_3 rfl ?_
    refine r_getf (v := .ref (G.2.2.2 (23))) dX9_spendLoose_4 fX_42_0 kX9 (by decide) lkf_X9_23 rfl ?_
    refine r_getf (v := .int (M.1 23 0)) dX9_spendLoose_7 fX_23_0 kX3 (by decide) lkf_X9_40 rfl ?_
    refine r_icmp_ge (tgt := 101) dX9_spendLoose_10 rfl (fun h1 => ?_) (fun h1 => ?_)
    · exact r_lk (hx M) True.intro
    refine r_aload_n dX9_spendLoose_13 rfl ?_
    refine r_getf (v := .ref (G.2.2.2 (23))) dX9_spendLoose_14 fX_42_0 kX9 (by decide) lkf_X9_23 rfl ?_
    refine r_iload_n dX9_spendLoose_17 rfl ?_
    refine c_Z (inv_V (mi := mi_X9_spendLoose) (b := 23) (rest := []) (X3_isLoose_ok_23 G c1 M) rfl (by decide) dX9_spendLoose_18 lkm_X9_124 cal_X3_isLoose cX_23 rfl rfl (Nat.le_of_ble_eq_true rfl) rfl) ?_
    refine r_jB1 (j := 95) (lvj := fun M11 => [some (.ref (G.2.2.2 (42))), some (.int c1), none, none]) (stj := fun M11 => []) (Mj := fun M11 => M11) (fun M11 => ?_) (fun hj95 => ?_)
    · refine r_iinc (y := c1 + 1) (lv' := [some (.ref (G.2.2.2 (42))), some (.int (c1 + 1)), none, none]) dX9_spendLoose_95 rfl rfl (Nat.le_of_ble_eq_true rfl) rfl rfl ?_
      refine r_goto (tgt := 2) dX9_spendLoose_98 rfl ?_
      exact r_lk (ih (c1 + 1) M11) (And.intro rfl (And.intro rfl True.intro))
    refine r_ifz_eq (tgt := 95) dX9_spendLoose_21 rfl (fun h2 => ?_) (fun h2 => ?_)
    · refine r_aload_n dX9_spendLoose_24 rfl ?_
      refine c_I (inv_V (mi := mi_X9_spendLoose) (b := 42) (rest := []) (X9_seedNow_ok_42 G M) rfl (by decide) dX9_spendLoose_25 lkm_X9_127 cal_X9_seedNow cX_42 rfl rfl (Nat.le_of_ble_eq_true rfl) rfl) ?_
      refine r_sipush (x := 137) dX9_spendLoose_28 rfl ?_
      refine r_imul dX9_spendLoose_31 ?_
      refine r_bipush (x := 71) dX9_spendLoose_32 rfl ?_
      refine r_iadd dX9_spendLoose_34 ?_
      refine r_sipush (x := 1000) dX9_spendLoose_35 rfl ?_
      refine r_irem dX9_spendLoose_38 (by decide) ?_
      refine r_letI (fun y3 => ?_)
      refine r_istore_n (lv' := [some (.ref (G.2.2.2 (42))), some (.int c1), some (.int y3), none]) dX9_spendLoose_39 (Nat.le_of_ble_eq_true rfl) rfl rfl ?_
      refine r_aload_n dX9_spendLoose_40 rfl ?_
      refine r_getf (v := .ref (G.2.2.2 (42 + 1))) dX9_spendLoose_41 fX_42_1 kX9 (by decide) lkf_X9_11 rfl ?_
      refine r_bipush (x := 41) dX9_spendLoose_44 rfl ?_
      refine r_iload_n dX9_spendLoose_46 rfl ?_
      refine c_V (inv_SN (mi := mi_X9_spendLoose) (rest := []) (X11_put_ok G aX_43p 41 y3 M) rfl (by decide) dX9_spendLoose_47 lkm_X9_27 cal_X11_put rfl (Nat.le_of_ble_eq_true rfl) rfl) (fun M4 => ?_)
      refine r_aload_n dX9_spendLoose_50 rfl ?_
      refine r_getf (v := .ref (G.2.2.2 (23))) dX9_spendLoose_51 fX_42_0 kX9 (by decide) lkf_X9_23 rfl ?_
      refine r_getf (v := .int (M4.1 23 1)) dX9_spendLoose_54 fX_23_1 kX3 (by decide) lkf_X9_67 rfl ?_
      refine r_jB1 (j := 73) (lvj := fun y7 => [some (.ref (G.2.2.2 (42))), some (.int c1), none, none]) (stj := fun y7 => [.int y7]) (Mj := fun y7 => M4) (fun y7 => ?_) (fun hj73 => ?_)
      · refine r_istore_n (lv' := [some (.ref (G.2.2.2 (42))), some (.int c1), none, some (.int y7)]) dX9_spendLoose_73 (Nat.le_of_ble_eq_true rfl) rfl rfl ?_
        refine r_iload_n dX9_spendLoose_74 rfl ?_
        refine r_iconst (x := (-1)) dX9_spendLoose_75 rfl ?_
        refine r_icmp_eq (tgt := 95) dX9_spendLoose_76 rfl (fun h8 => ?_) (fun h8 => ?_)
        · exact r_lk (hj95 M4) (And.intro rfl (And.intro rfl True.intro))
        refine r_aload_n dX9_spendLoose_79 rfl ?_
        refine r_iload_n dX9_spendLoose_80 rfl ?_
        refine r_iload_n dX9_spendLoose_81 rfl ?_
        refine c_I (inv_V (mi := mi_X9_spendLoose) (b := 42) (rest := []) (X9_purseOf_ok_42 G c1 y7 M4) rfl (by decide) dX9_spendLoose_82 lkm_X9_70 cal_X9_purseOf cX_42 rfl rfl (Nat.le_of_ble_eq_true rfl) rfl) ?_
        refine r_if_le (tgt := 95) dX9_spendLoose_85 rfl (fun h9 => ?_) (fun h9 => ?_)
        · exact r_lk (hj95 M4) (And.intro rfl (And.intro rfl True.intro))
        refine r_aload_n dX9_spendLoose_88 rfl ?_
        refine r_iload_n dX9_spendLoose_89 rfl ?_
        refine r_iload_n dX9_spendLoose_90 rfl ?_
        refine r_iconst (x := 1) dX9_spendLoose_91 rfl ?_
        refine c_OV (by exact hs) (inv_V (mi := mi_X9_spendLoose) (b := 42) (rest := []) (X9_spendHours_ok_42 G c1 y7 1 M4) rfl (by decide) dX9_spendLoose_92 lkm_X9_130 cal_X9_spendHours cX_42 rfl rfl (Nat.le_of_ble_eq_true rfl) rfl) (fun M10 => ?_)
        exact r_lk (hj95 M10) (And.intro rfl (And.intro rfl True.intro))
      refine r_if_le (tgt := 72) dX9_spendLoose_57 rfl (fun h5 => ?_) (fun h5 => ?_)
      · refine r_iconst (x := (-1)) dX9_spendLoose_72 rfl ?_
        exact r_lk (hj73 (-1)) (And.intro rfl (And.intro rfl True.intro))
      refine r_iload_n dX9_spendLoose_60 rfl ?_
      refine r_aload_n dX9_spendLoose_61 rfl ?_
      refine r_getf (v := .ref (G.2.2.2 (23))) dX9_spendLoose_62 fX_42_0 kX9 (by decide) lkf_X9_23 rfl ?_
      refine r_getf (v := .int (M4.1 23 1)) dX9_spendLoose_65 fX_23_1 kX3 (by decide) lkf_X9_67 rfl ?_
      refine r_gd (by exact hs) (fun g6 => ?_)
      refine r_irem dX9_spendLoose_68 g6 ?_
      refine r_goto (tgt := 73) dX9_spendLoose_69 rfl ?_
      exact r_lk (hj73 (y3 % (M4.1 23 1))) (And.intro rfl (And.intro rfl True.intro))
    exact r_lk (hj95 M) (And.intro rfl (And.intro rfl True.intro))
set_option maxRecDepth 100000 in
set_option maxHeartbeats 4000000 in
theorem X9_spendLoose_ok_42 (G : Gh) (M : Mem) : Mt G mi_X9_spendLoose [.ref (G.2.2.2 (42))] M ((dO dV) (X9_spendLoose 42 M)) := by
  refine Mt_of (lv := [some (.ref (G.2.2.2 (42)))]) (by decide) rfl (Nat.le_of_ble_eq_true rfl) rfl ?_
  refine r_le (lv' := [some (.ref (G.2.2.2 (42))), none, none, none]) (And.intro rfl True.intro) ?_
  unfold X9_spendLoose
  refine r_iconst (x := 0) dX9_spendLoose_0 rfl ?_
  refine r_istore_n (lv' := [some (.ref (G.2.2.2 (42))), some (.int 0), none, none]) dX9_spendLoose_1 (Nat.le_of_ble_eq_true rfl) rfl rfl ?_
  refine r_jB1 (j := 101) (lvj := fun M12 => [none, none, none, none]) (stj := fun M12 => []) (Mj := fun M12 => M12) (fun M12 => ?_) (fun hj101 => ?_)
  · exact r_vret dX9_spendLoose_101 rfl rfl
  exact r_lk (X9_spendLoose_L1_ok_42 G rfl hj101 zFU 0 M) (And.intro rfl (And.intro rfl True.intro))

theorem dX9_goWeek_0 : decode cX9_goWeek 0 = .ok (.aload_n 0, 1) := by decide +kernel
theorem dX9_goWeek_1 : decode cX9_goWeek 1 = .ok (.invokevirtual 115, 3) := by decide +kernel
theorem dX9_goWeek_4 : decode cX9_goWeek 4 = .ok (.iconst 0, 1) := by decide +kernel
theorem dX9_goWeek_5 : decode cX9_goWeek 5 = .ok (.istore_n 1, 1) := by decide +kernel
theorem dX9_goWeek_6 : decode cX9_goWeek 6 = .ok (.iconst 0, 1) := by decide +kernel
theorem dX9_goWeek_7 : decode cX9_goWeek 7 = .ok (.istore_n 2, 1) := by decide +kernel
theorem dX9_goWeek_8 : decode cX9_goWeek 8 = .ok (.iload_n 2, 1) := by decide +kernel
theorem dX9_goWeek_9 : decode cX9_goWeek 9 = .ok (.aload_n 0, 1) := by decide +kernel
theorem dX9_goWeek_10 : decode cX9_goWeek 10 = .ok (.getfield 23, 3) := by decide +kernel
theorem dX9_goWeek_13 : decode cX9_goWeek 13 = .ok (.getfield 40, 3) := by decide +kernel
theorem dX9_goWeek_16 : decode cX9_goWeek 16 = .ok (.if_icmp .ge 50, 3) := by decide +kernel
theorem dX9_goWeek_19 : decode cX9_goWeek 19 = .ok (.aload_n 0, 1) := by decide +kernel
theorem dX9_goWeek_20 : decode cX9_goWeek 20 = .ok (.iload_n 2, 1) := by decide +kernel
theorem dX9_goWeek_21 : decode cX9_goWeek 21 = .ok (.invokevirtual 118, 3) := by decide +kernel
theorem dX9_goWeek_24 : decode cX9_goWeek 24 = .ok (.istore_n 3, 1) := by decide +kernel
theorem dX9_goWeek_25 : decode cX9_goWeek 25 = .ok (.iconst 0, 1) := by decide +kernel
theorem dX9_goWeek_26 : decode cX9_goWeek 26 = .ok (.bipush 99, 2) := by decide +kernel
theorem dX9_goWeek_28 : decode cX9_goWeek 28 = .ok (.aload_n 0, 1) := by decide +kernel
theorem dX9_goWeek_29 : decode cX9_goWeek 29 = .ok (.iload_n 2, 1) := by decide +kernel
theorem dX9_goWeek_30 : decode cX9_goWeek 30 = .ok (.invokevirtual 97, 3) := by decide +kernel
theorem dX9_goWeek_33 : decode cX9_goWeek 33 = .ok (.iload_n 3, 1) := by decide +kernel
theorem dX9_goWeek_34 : decode cX9_goWeek 34 = .ok (.iadd, 1) := by decide +kernel
theorem dX9_goWeek_35 : decode cX9_goWeek 35 = .ok (.invokestatic 74, 3) := by decide +kernel
theorem dX9_goWeek_38 : decode cX9_goWeek 38 = .ok (.invokestatic 112, 3) := by decide +kernel
theorem dX9_goWeek_41 : decode cX9_goWeek 41 = .ok (.istore 4, 2) := by decide +kernel
theorem dX9_goWeek_43 : decode cX9_goWeek 43 = .ok (.aload_n 0, 1) := by decide +kernel
theorem dX9_goWeek_44 : decode cX9_goWeek 44 = .ok (.getfield 11, 3) := by decide +kernel
theorem dX9_goWeek_47 : decode cX9_goWeek 47 = .ok (.bipush 30, 2) := by decide +kernel
theorem dX9_goWeek_49 : decode cX9_goWeek 49 = .ok (.iload_n 2, 1) := by decide +kernel
theorem dX9_goWeek_50 : decode cX9_goWeek 50 = .ok (.iadd, 1) := by decide +kernel
theorem dX9_goWeek_51 : decode cX9_goWeek 51 = .ok (.iload 4, 2) := by decide +kernel
theorem dX9_goWeek_53 : decode cX9_goWeek 53 = .ok (.invokestatic 27, 3) := by decide +kernel
theorem dX9_goWeek_56 : decode cX9_goWeek 56 = .ok (.iload_n 1, 1) := by decide +kernel
theorem dX9_goWeek_57 : decode cX9_goWeek 57 = .ok (.iload_n 3, 1) := by decide +kernel
theorem dX9_goWeek_58 : decode cX9_goWeek 58 = .ok (.iadd, 1) := by decide +kernel
theorem dX9_goWeek_59 : decode cX9_goWeek 59 = .ok (.istore_n 1, 1) := by decide +kernel
theorem dX9_goWeek_60 : decode cX9_goWeek 60 = .ok (.iinc 2 1, 3) := by decide +kernel
theorem dX9_goWeek_63 : decode cX9_goWeek 63 = .ok (.goto (-55), 3) := by decide +kernel
theorem dX9_goWeek_66 : decode cX9_goWeek 66 = .ok (.iconst 0, 1) := by decide +kernel
theorem dX9_goWeek_67 : decode cX9_goWeek 67 = .ok (.istore_n 2, 1) := by decide +kernel
theorem dX9_goWeek_68 : decode cX9_goWeek 68 = .ok (.iload_n 2, 1) := by decide +kernel
theorem dX9_goWeek_69 : decode cX9_goWeek 69 = .ok (.aload_n 0, 1) := by decide +kernel
theorem dX9_goWeek_70 : decode cX9_goWeek 70 = .ok (.getfield 23, 3) := by decide +kernel
theorem dX9_goWeek_73 : decode cX9_goWeek 73 = .ok (.getfield 40, 3) := by decide +kernel
theorem dX9_goWeek_76 : decode cX9_goWeek 76 = .ok (.if_icmp .ge 71, 3) := by decide +kernel
theorem dX9_goWeek_79 : decode cX9_goWeek 79 = .ok (.aload_n 0, 1) := by decide +kernel
theorem dX9_goWeek_80 : decode cX9_goWeek 80 = .ok (.getfield 11, 3) := by decide +kernel
theorem dX9_goWeek_83 : decode cX9_goWeek 83 = .ok (.bipush 35, 2) := by decide +kernel
theorem dX9_goWeek_85 : decode cX9_goWeek 85 = .ok (.iload_n 2, 1) := by decide +kernel
theorem dX9_goWeek_86 : decode cX9_goWeek 86 = .ok (.iadd, 1) := by decide +kernel
theorem dX9_goWeek_87 : decode cX9_goWeek 87 = .ok (.iconst 0, 1) := by decide +kernel
theorem dX9_goWeek_88 : decode cX9_goWeek 88 = .ok (.invokestatic 27, 3) := by decide +kernel
theorem dX9_goWeek_91 : decode cX9_goWeek 91 = .ok (.iconst 0, 1) := by decide +kernel
theorem dX9_goWeek_92 : decode cX9_goWeek 92 = .ok (.istore_n 3, 1) := by decide +kernel
theorem dX9_goWeek_93 : decode cX9_goWeek 93 = .ok (.iload_n 3, 1) := by decide +kernel
theorem dX9_goWeek_94 : decode cX9_goWeek 94 = .ok (.aload_n 0, 1) := by decide +kernel
theorem dX9_goWeek_95 : decode cX9_goWeek 95 = .ok (.getfield 23, 3) := by decide +kernel
theorem dX9_goWeek_98 : decode cX9_goWeek 98 = .ok (.getfield 67, 3) := by decide +kernel
theorem dX9_goWeek_101 : decode cX9_goWeek 101 = .ok (.if_icmp .ge 40, 3) := by decide +kernel
theorem dX9_goWeek_104 : decode cX9_goWeek 104 = .ok (.aload_n 0, 1) := by decide +kernel
theorem dX9_goWeek_105 : decode cX9_goWeek 105 = .ok (.getfield 11, 3) := by decide +kernel
theorem dX9_goWeek_108 : decode cX9_goWeek 108 = .ok (.bipush 15, 2) := by decide +kernel
theorem dX9_goWeek_110 : decode cX9_goWeek 110 = .ok (.iload_n 2, 1) := by decide +kernel
theorem dX9_goWeek_111 : decode cX9_goWeek 111 = .ok (.iconst 3, 1) := by decide +kernel
theorem dX9_goWeek_112 : decode cX9_goWeek 112 = .ok (.imul, 1) := by decide +kernel
theorem dX9_goWeek_113 : decode cX9_goWeek 113 = .ok (.iadd, 1) := by decide +kernel
theorem dX9_goWeek_114 : decode cX9_goWeek 114 = .ok (.iload_n 3, 1) := by decide +kernel
theorem dX9_goWeek_115 : decode cX9_goWeek 115 = .ok (.iadd, 1) := by decide +kernel
theorem dX9_goWeek_116 : decode cX9_goWeek 116 = .ok (.iconst 0, 1) := by decide +kernel
theorem dX9_goWeek_117 : decode cX9_goWeek 117 = .ok (.invokestatic 27, 3) := by decide +kernel
theorem dX9_goWeek_120 : decode cX9_goWeek 120 = .ok (.aload_n 0, 1) := by decide +kernel
theorem dX9_goWeek_121 : decode cX9_goWeek 121 = .ok (.iload_n 2, 1) := by decide +kernel
theorem dX9_goWeek_122 : decode cX9_goWeek 122 = .ok (.iload_n 3, 1) := by decide +kernel
theorem dX9_goWeek_123 : decode cX9_goWeek 123 = .ok (.aload_n 0, 1) := by decide +kernel
theorem dX9_goWeek_124 : decode cX9_goWeek 124 = .ok (.getfield 23, 3) := by decide +kernel
theorem dX9_goWeek_127 : decode cX9_goWeek 127 = .ok (.iload_n 2, 1) := by decide +kernel
theorem dX9_goWeek_128 : decode cX9_goWeek 128 = .ok (.iload_n 3, 1) := by decide +kernel
theorem dX9_goWeek_129 : decode cX9_goWeek 129 = .ok (.invokevirtual 121, 3) := by decide +kernel
theorem dX9_goWeek_132 : decode cX9_goWeek 132 = .ok (.invokevirtual 79, 3) := by decide +kernel
theorem dX9_goWeek_135 : decode cX9_goWeek 135 = .ok (.iinc 3 1, 3) := by decide +kernel
theorem dX9_goWeek_138 : decode cX9_goWeek 138 = .ok (.goto (-45), 3) := by decide +kernel
theorem dX9_goWeek_141 : decode cX9_goWeek 141 = .ok (.iinc 2 1, 3) := by decide +kernel
theorem dX9_goWeek_144 : decode cX9_goWeek 144 = .ok (.goto (-76), 3) := by decide +kernel
theorem dX9_goWeek_147 : decode cX9_goWeek 147 = .ok (.aload_n 0, 1) := by decide +kernel
theorem dX9_goWeek_148 : decode cX9_goWeek 148 = .ok (.getfield 11, 3) := by decide +kernel
theorem dX9_goWeek_151 : decode cX9_goWeek 151 = .ok (.bipush 40, 2) := by decide +kernel
theorem dX9_goWeek_153 : decode cX9_goWeek 153 = .ok (.aload_n 0, 1) := by decide +kernel
theorem dX9_goWeek_154 : decode cX9_goWeek 154 = .ok (.invokevirtual 100, 3) := by decide +kernel
theorem dX9_goWeek_157 : decode cX9_goWeek 157 = .ok (.iconst 1, 1) := by decide +kernel
theorem dX9_goWeek_158 : decode cX9_goWeek 158 = .ok (.iadd, 1) := by decide +kernel
theorem dX9_goWeek_159 : decode cX9_goWeek 159 = .ok (.invokestatic 27, 3) := by decide +kernel
theorem dX9_goWeek_162 : decode cX9_goWeek 162 = .ok (.iload_n 1, 1) := by decide +kernel
theorem dX9_goWeek_163 : decode cX9_goWeek 163 = .ok (.ireturn, 1) := by decide +kernel
abbrev mi_X9_goWeek : MI := (zTX, RX9, yX9_goWeek, cX9_goWeek, 5, (some .int), 11)
theorem cal_X9_goWeek : zCalV mi_X9_goWeek 0 := ⟨⟨zTB_i4 209 (by decide +kernel), zTB_i4 207 (by decide +kernel), zTB_i4 208 (by decide +kernel), zTB_i1 8 (by decide +kernel)⟩, ⟨by decide, by decide, by decide +kernel⟩, by decide⟩
noncomputable def X9_goWeek_L3 (o0 : Nat) (c2 : Int32) : Nat → Int32 → Mem → Option (Mem)
  | 0, _, _ => none
  | n + 1, c3, M =>
    if (M.1 23 1) ≤ c3 then
      some M
    else
    lt_ (X11_put (o0 + 1) ((15 + (c2 * 3)) + c3) 0 M) fun M12 =>
    lt_ (X9_addToPurse o0 c2 c3 (X3_wageOf 23 c2 c3 M12) M12) fun M13 =>
    X9_goWeek_L3 o0 c2 n (c3 + 1) M13
noncomputable def X9_goWeek_L2 (o0 : Nat) : Nat → Int32 → Mem → Option (Mem)
  | 0, _, _ => none
  | n + 1, c2, M =>
    if (M.1 23 0) ≤ c2 then
      some M
    else
    lt_ (X11_put (o0 + 1) (35 + c2) 0 M) fun M10 =>
    b1_ (α := Mem) (X9_goWeek_L3 o0 c2 zFU 0 M10) fun M14 =>
    X9_goWeek_L2 o0 n (c2 + 1) M14
noncomputable def X9_goWeek_L1 (o0 : Nat) : Nat → Int32 → Int32 → Mem → Option (Int32 × Mem)
  | 0, _, _, _ => none
  | n + 1, c1, c2, M =>
    if (M.1 23 0) ≤ c2 then
      some (c1, M)
    else
    bp_ (X9_growthOf o0 c2 M) fun v3 M4 =>
    lt_ (α := Int32) ((if 0 < (if ((X9_cropOf o0 c2 M4) + v3) < 99 then ((X9_cropOf o0 c2 M4) + v3) else 99) then (if ((X9_cropOf o0 c2 M4) + v3) < 99 then ((X9_cropOf o0 c2 M4) + v3) else 99) else 0)) fun y5 =>
    lt_ (X11_put (o0 + 1) (30 + c2) y5 M4) fun M6 =>
    X9_goWeek_L1 o0 n (c1 + v3) (c2 + 1) M6
noncomputable def X9_goWeek (o0 : Nat) (M : Mem) : Option (Int32 × Mem) :=
  bo_ (X9_spendLoose o0 M) fun M1 =>
  b2_ (α := Int32) (β := Mem) (X9_goWeek_L1 o0 zFU 0 0 M1) fun e7 M8 =>
  b1_ (α := Mem) (X9_goWeek_L2 o0 zFU 0 M8) fun M15 =>
  lt_ (X11_put (o0 + 1) 40 ((X9_weekNow o0 M15) + 1) M15) fun M16 =>
  some (e7, M16)
set_option maxRecDepth 100000 in
set_option maxHeartbeats 4000000 in
theorem X9_goWeek_L3_ok_35 (G : Gh) (c2 : Int32) (e7 : Int32) {dn : Option (Mem) → Option (Option Value × Mem)} (hs : dn none = none) (hx : ∀ (M14 : Mem), Wr G mi_X9_goWeek dn 141 [some (.ref (G.2.2.2 (35))), some (.int e7), some (.int c2), none, none] [] M14 (some M14)) : ∀ (n : Nat) (c3 : Int32) (M : Mem), Wr G mi_X9_goWeek dn 93 [some (.ref (G.2.2.2 (35))), some (.int e7), some (.int c2), some (.int c3), none] [] M (X9_goWeek_L3 35 c2 n c3 M) := by
  intro n
  induction n with
  | zero => intro c3 M; exact r_none (by exact hs)
  | succ n ih =>
    intro c3 M
    rw [X9_goWeek_L3]
    refine r_iload_n dX9_goWeek_93 rfl ?_
    refine r_aload_n dX9_goWeek_94 rfl ?_
    refine r_getf (v := .ref (G.2.2.2 (23))) dX9_goWeek_95 fX_35_0 kX9 (by decide) lkf_X9_23 rfl ?_
    refine r_getf (v := .int (M.1 23 1)) dX9_goWeek_98 fX_23_1 kX3 (by decide) lkf_X9_67 rfl ?_
    refine r_icmp_ge (tgt := 141) dX9_goWeek_101 rfl (fun h11 => ?_) (fun h11 => ?_)
    · exact r_lk (hx M) (And.intro rfl (And.intro rfl (And.intro rfl True.intro)))
    refine r_aload_n dX9_goWeek_104 rfl ?_
    refine r_getf (v := .ref (G.2.2.2 (35 + 1))) dX9_goWeek_105 fX_35_1 kX9 (by decide) lkf_X9_11 rfl ?_
    refine r_bipush (x := 15) dX9_goWeek_108 rfl ?_
    refine r_iload_n dX9_goWeek_110 rfl ?_
    refine r_iconst (x := 3) dX9_goWeek_111 rfl ?_
    refine r_imul dX9_goWeek_112 ?_
    refine r_iadd dX9_goWeek_113 ?_
    refine r_iload_n dX9_goWeek_114 rfl ?_
    refine r_iadd dX9_goWeek_115 ?_
    refine r_iconst (x := 0) dX9_goWeek_116 rfl ?_
    refine c_V (inv_SN (mi := mi_X9_goWeek) (rest := []) (X11_put_ok G aX_36p ((15 + (c2 * 3)) + c3) 0 M) rfl (by decide) dX9_goWeek_117 lkm_X9_27 cal_X11_put rfl (Nat.le_of_ble_eq_true rfl) rfl) (fun M12 => ?_)
    refine r_aload_n dX9_goWeek_120 rfl ?_
    refine r_iload_n dX9_goWeek_121 rfl ?_
    refine r_iload_n dX9_goWeek_122 rfl ?_
    refine r_aload_n dX9_goWeek_123 rfl ?_
    refine r_getf (v := .ref (G.2.2.2 (23))) dX9_goWeek_124 fX_35_0 kX9 (by decide) lkf_X9_23 rfl ?_
    refine r_iload_n dX9_goWeek_127 rfl ?_
    refine r_iload_n dX9_goWeek_128 rfl ?_
    refine c_I (inv_V (mi := mi_X9_goWeek) (b := 23) (rest := [.int c3, .int c2, .ref (G.2.2.2 (35))]) (X3_wageOf_ok_23 G c2 c3 M12) rfl (by decide) dX9_goWeek_129 lkm_X9_121 cal_X3_wageOf cX_23 rfl rfl (Nat.le_of_ble_eq_true rfl) rfl) ?_
    refine c_V (inv_V (mi := mi_X9_goWeek) (b := 35) (rest := []) (X9_addToPurse_ok_35 G c2 c3 (X3_wageOf 23 c2 c3 M12) M12) rfl (by decide) dX9_goWeek_132 lkm_X9_79 cal_X9_addToPurse cX_35 rfl rfl (Nat.le_of_ble_eq_true rfl) rfl) (fun M13 => ?_)
    refine r_iinc (y := c3 + 1) (lv' := [some (.ref (G.2.2.2 (35))), some (.int e7), some (.int c2), some (.int (c3 + 1)), none]) dX9_goWeek_135 rfl rfl (Nat.le_of_ble_eq_true rfl) rfl rfl ?_
    refine r_goto (tgt := 93) dX9_goWeek_138 rfl ?_
    exact r_lk (ih (c3 + 1) M13) (And.intro rfl (And.intro rfl (And.intro rfl (And.intro rfl True.intro))))
set_option maxRecDepth 100000 in
set_option maxHeartbeats 4000000 in
theorem X9_goWeek_L2_ok_35 (G : Gh) (e7 : Int32) {dn : Option (Mem) → Option (Option Value × Mem)} (hs : dn none = none) (hx : ∀ (M15 : Mem), Wr G mi_X9_goWeek dn 147 [some (.ref (G.2.2.2 (35))), some (.int e7), none, none, none] [] M15 (some M15)) : ∀ (n : Nat) (c2 : Int32) (M : Mem), Wr G mi_X9_goWeek dn 68 [some (.ref (G.2.2.2 (35))), some (.int e7), some (.int c2), none, none] [] M (X9_goWeek_L2 35 n c2 M) := by
  intro n
  induction n with
  | zero => intro c2 M; exact r_none (by exact hs)
  | succ n ih =>
    intro c2 M
    rw [X9_goWeek_L2]
    refine r_iload_n dX9_goWeek_68 rfl ?_
    refine r_aload_n dX9_goWeek_69 rfl ?_
    refine r_getf (v := .ref (G.2.2.2 (23))) dX9_goWeek_70 fX_35_0 kX9 (by decide) lkf_X9_23 rfl ?_
    refine r_getf (v := .int (M.1 23 0)) dX9_goWeek_73 fX_23_0 kX3 (by decide) lkf_X9_40 rfl ?_
    refine r_icmp_ge (tgt := 147) dX9_goWeek_76 rfl (fun h9 => ?_) (fun h9 => ?_)
    · exact r_lk (hx M) (And.intro rfl (And.intro rfl True.intro))
    refine r_aload_n dX9_goWeek_79 rfl ?_
    refine r_getf (v := .ref (G.2.2.2 (35 + 1))) dX9_goWeek_80 fX_35_1 kX9 (by decide) lkf_X9_11 rfl ?_
    refine r_bipush (x := 35) dX9_goWeek_83 rfl ?_
    refine r_iload_n dX9_goWeek_85 rfl ?_
    refine r_iadd dX9_goWeek_86 ?_
    refine r_iconst (x := 0) dX9_goWeek_87 rfl ?_
    refine c_V (inv_SN (mi := mi_X9_goWeek) (rest := []) (X11_put_ok G aX_36p (35 + c2) 0 M) rfl (by decide) dX9_goWeek_88 lkm_X9_27 cal_X11_put rfl (Nat.le_of_ble_eq_true rfl) rfl) (fun M10 => ?_)
    refine r_iconst (x := 0) dX9_goWeek_91 rfl ?_
    refine r_istore_n (lv' := [some (.ref (G.2.2.2 (35))), some (.int e7), some (.int c2), some (.int 0), none]) dX9_goWeek_92 (Nat.le_of_ble_eq_true rfl) rfl rfl ?_
    refine r_jB1 (j := 141) (lvj := fun M14 => [some (.ref (G.2.2.2 (35))), some (.int e7), some (.int c2), none, none]) (stj := fun M14 => []) (Mj := fun M14 => M14) (fun M14 => ?_) (fun hj141 => ?_)
    · refine r_iinc (y := c2 + 1) (lv' := [some (.ref (G.2.2.2 (35))), some (.int e7), some (.int (c2 + 1)), none, none]) dX9_goWeek_141 rfl rfl (Nat.le_of_ble_eq_true rfl) rfl rfl ?_
      refine r_goto (tgt := 68) dX9_goWeek_144 rfl ?_
      exact r_lk (ih (c2 + 1) M14) (And.intro rfl (And.intro rfl (And.intro rfl True.intro)))
    exact r_lk (X9_goWeek_L3_ok_35 G c2 e7 (by exact hs) hj141 zFU 0 M10) (And.intro rfl (And.intro rfl (And.intro rfl (And.intro rfl True.intro))))
set_option maxRecDepth 100000 in
set_option maxHeartbeats 4000000 in
theorem X9_goWeek_L1_ok_35 (G : Gh) {dn : Option (Int32 × Mem) → Option (Option Value × Mem)} (hs : dn none = none) (hx : ∀ (e7 : Int32) (M8 : Mem), Wr G mi_X9_goWeek dn 66 [some (.ref (G.2.2.2 (35))), some (.int e7), none, none, none] [] M8 (some (e7, M8))) : ∀ (n : Nat) (c1 : Int32) (c2 : Int32) (M : Mem), Wr G mi_X9_goWeek dn 8 [some (.ref (G.2.2.2 (35))), some (.int c1), some (.int c2), none, none] [] M (X9_goWeek_L1 35 n c1 c2 M) := by
  intro n
  induction n with
  | zero => intro c1 c2 M; exact r_none (by exact hs)
  | succ n ih =>
    intro c1 c2 M
    rw [X9_goWeek_L1]
    refine r_iload_n dX9_goWeek_8 rfl ?_
    refine r_aload_n dX9_goWeek_9 rfl ?_
    refine r_getf (v := .ref (G.2.2.2 (23))) dX9_goWeek_10 fX_35_0 kX9 (by decide) lkf_X9_23 rfl ?_
    refine r_getf (v := .int (M.1 23 0)) dX9_goWeek_13 fX_23_0 kX3 (by decide) lkf_X9_40 rfl ?_
    refine r_icmp_ge (tgt := 66) dX9_goWeek_16 rfl (fun h2 => ?_) (fun h2 => ?_)
    · exact r_lk (hx c1 M) (And.intro rfl (And.intro rfl True.intro))
    refine r_aload_n dX9_goWeek_19 rfl ?_
    refine r_iload_n dX9_goWeek_20 rfl ?_
    refine c_OIM (by exact hs) (inv_V (mi := mi_X9_goWeek) (b := 35) (rest := []) (X9_growthOf_ok_35 G c2 M) rfl (by decide) dX9_goWeek_21 lkm_X9_118 cal_X9_growthOf cX_35 rfl rfl (Nat.le_of_ble_eq_true rfl) rfl) (fun v3 M4 => ?_)
    refine r_istore_n (lv' := [some (.ref (G.2.2.2 (35))), some (.int c1), some (.int c2), some (.int v3), none]) dX9_goWeek_24 (Nat.le_of_ble_eq_true rfl) rfl rfl ?_
    refine r_iconst (x := 0) dX9_goWeek_25 rfl ?_
    refine r_bipush (x := 99) dX9_goWeek_26 rfl ?_
    refine r_aload_n dX9_goWeek_28 rfl ?_
    refine r_iload_n dX9_goWeek_29 rfl ?_
    refine c_I (inv_V (mi := mi_X9_goWeek) (b := 35) (rest := [.int 99, .int 0]) (X9_cropOf_ok_35 G c2 M4) rfl (by decide) dX9_goWeek_30 lkm_X9_97 cal_X9_cropOf cX_35 rfl rfl (Nat.le_of_ble_eq_true rfl) rfl) ?_
    refine r_iload_n dX9_goWeek_33 rfl ?_
    refine r_iadd dX9_goWeek_34 ?_
    refine r_min dX9_goWeek_35 lkm_X9_74 tw_mmin1 tw_m2 tw_mmin3 (by decide) (Nat.le_of_ble_eq_true rfl) ?_
    refine r_max dX9_goWeek_38 lkm_X9_112 tw_mmax1 tw_m2 tw_mmax3 (by decide) (Nat.le_of_ble_eq_true rfl) ?_
    refine r_letI (fun y5 => ?_)
    refine r_istore (lv' := [some (.ref (G.2.2.2 (35))), some (.int c1), some (.int c2), some (.int v3), some (.int y5)]) dX9_goWeek_41 (Nat.le_of_ble_eq_true rfl) rfl rfl ?_
    refine r_aload_n dX9_goWeek_43 rfl ?_
    refine r_getf (v := .ref (G.2.2.2 (35 + 1))) dX9_goWeek_44 fX_35_1 kX9 (by decide) lkf_X9_11 rfl ?_
    refine r_bipush (x := 30) dX9_goWeek_47 rfl ?_
    refine r_iload_n dX9_goWeek_49 rfl ?_
    refine r_iadd dX9_goWeek_50 ?_
    refine r_iload dX9_goWeek_51 rfl ?_
    refine c_V (inv_SN (mi := mi_X9_goWeek) (rest := []) (X11_put_ok G aX_36p (30 + c2) y5 M4) rfl (by decide) dX9_goWeek_53 lkm_X9_27 cal_X11_put rfl (Nat.le_of_ble_eq_true rfl) rfl) (fun M6 => ?_)
    refine r_iload_n dX9_goWeek_56 rfl ?_
    refine r_iload_n dX9_goWeek_57 rfl ?_
    refine r_iadd dX9_goWeek_58 ?_
    refine r_istore_n (lv' := [some (.ref (G.2.2.2 (35))), some (.int (c1 + v3)), some (.int c2), some (.int v3), some (.int y5)]) dX9_goWeek_59 (Nat.le_of_ble_eq_true rfl) rfl rfl ?_
    refine r_iinc (y := c2 + 1) (lv' := [some (.ref (G.2.2.2 (35))), some (.int (c1 + v3)), some (.int (c2 + 1)), some (.int v3), some (.int y5)]) dX9_goWeek_60 rfl rfl (Nat.le_of_ble_eq_true rfl) rfl rfl ?_
    refine r_goto (tgt := 8) dX9_goWeek_63 rfl ?_
    exact r_lk (ih (c1 + v3) (c2 + 1) M6) (And.intro rfl (And.intro rfl (And.intro rfl True.intro)))
set_option maxRecDepth 100000 in
set_option maxHeartbeats 4000000 in
theorem X9_goWeek_ok_35 (G : Gh) (M : Mem) : Mt G mi_X9_goWeek [.ref (G.2.2.2 (35))] M ((dO dIM) (X9_goWeek 35 M)) := by
  refine Mt_of (lv := [some (.ref (G.2.2.2 (35)))]) (by decide) rfl (Nat.le_of_ble_eq_true rfl) rfl ?_
  refine r_le (lv' := [some (.ref (G.2.2.2 (35))), none, none, none, none]) (And.intro rfl True.intro) ?_
  unfold X9_goWeek
  refine r_aload_n dX9_goWeek_0 rfl ?_
  refine c_OV rfl (inv_V (mi := mi_X9_goWeek) (b := 35) (rest := []) (X9_spendLoose_ok_35 G M) rfl (by decide) dX9_goWeek_1 lkm_X9_115 cal_X9_spendLoose cX_35 rfl rfl (Nat.le_of_ble_eq_true rfl) rfl) (fun M1 => ?_)
  refine r_iconst (x := 0) dX9_goWeek_4 rfl ?_
  refine r_istore_n (lv' := [some (.ref (G.2.2.2 (35))), some (.int 0), none, none, none]) dX9_goWeek_5 (Nat.le_of_ble_eq_true rfl) rfl rfl ?_
  refine r_iconst (x := 0) dX9_goWeek_6 rfl ?_
  refine r_istore_n (lv' := [some (.ref (G.2.2.2 (35))), some (.int 0), some (.int 0), none, none]) dX9_goWeek_7 (Nat.le_of_ble_eq_true rfl) rfl rfl ?_
  refine r_jB2 (j := 66) (lvj := fun e7 M8 => [some (.ref (G.2.2.2 (35))), some (.int e7), none, none, none]) (stj := fun e7 M8 => []) (Mj := fun e7 M8 => M8) (fun e7 M8 => ?_) (fun hj66 => ?_)
  · refine r_iconst (x := 0) dX9_goWeek_66 rfl ?_
    refine r_istore_n (lv' := [some (.ref (G.2.2.2 (35))), some (.int e7), some (.int 0), none, none]) dX9_goWeek_67 (Nat.le_of_ble_eq_true rfl) rfl rfl ?_
    refine r_jB1 (j := 147) (lvj := fun M15 => [some (.ref (G.2.2.2 (35))), some (.int e7), none, none, none]) (stj := fun M15 => []) (Mj := fun M15 => M15) (fun M15 => ?_) (fun hj147 => ?_)
    · refine r_aload_n dX9_goWeek_147 rfl ?_
      refine r_getf (v := .ref (G.2.2.2 (35 + 1))) dX9_goWeek_148 fX_35_1 kX9 (by decide) lkf_X9_11 rfl ?_
      refine r_bipush (x := 40) dX9_goWeek_151 rfl ?_
      refine r_aload_n dX9_goWeek_153 rfl ?_
      refine c_I (inv_V (mi := mi_X9_goWeek) (b := 35) (rest := [.int 40, .ref (G.2.2.2 (35 + 1))]) (X9_weekNow_ok_35 G M15) rfl (by decide) dX9_goWeek_154 lkm_X9_100 cal_X9_weekNow cX_35 rfl rfl (Nat.le_of_ble_eq_true rfl) rfl) ?_
      refine r_iconst (x := 1) dX9_goWeek_157 rfl ?_
      refine r_iadd dX9_goWeek_158 ?_
      refine c_V (inv_SN (mi := mi_X9_goWeek) (rest := []) (X11_put_ok G aX_36p 40 ((X9_weekNow 35 M15) + 1) M15) rfl (by decide) dX9_goWeek_159 lkm_X9_27 cal_X11_put rfl (Nat.le_of_ble_eq_true rfl) rfl) (fun M16 => ?_)
      refine r_iload_n dX9_goWeek_162 rfl ?_
      exact r_iret (ty := .int) dX9_goWeek_163 rfl rfl rfl
    exact r_lk (X9_goWeek_L2_ok_35 G e7 rfl hj147 zFU 0 M8) (And.intro rfl (And.intro rfl (And.intro rfl True.intro)))
  exact r_lk (X9_goWeek_L1_ok_35 G rfl hj66 zFU 0 0 M1) (And.intro rfl (And.intro rfl (And.intro rfl True.intro)))
set_option maxRecDepth 100000 in
set_option maxHeartbeats 4000000 in
theorem X9_goWeek_L3_ok_42 (G : Gh) (c2 : Int32) (e7 : Int32) {dn : Option (Mem) → Option (Option Value × Mem)} (hs : dn none = none) (hx : ∀ (M14 : Mem), Wr G mi_X9_goWeek dn 141 [some (.ref (G.2.2.2 (42))), some (.int e7), some (.int c2), none, none] [] M14 (some M14)) : ∀ (n : Nat) (c3 : Int32) (M : Mem), Wr G mi_X9_goWeek dn 93 [some (.ref (G.2.2.2 (42))), some (.int e7), some (.int c2), some (.int c3), none] [] M (X9_goWeek_L3 42 c2 n c3 M) := by
  intro n
  induction n with
  | zero => intro c3 M; exact r_none (by exact hs)
  | succ n ih =>
    intro c3 M
    rw [X9_goWeek_L3]
    refine r_iload_n dX9_goWeek_93 rfl ?_
    refine r_aload_n dX9_goWeek_94 rfl ?_
    refine r_getf (v := .ref (G.2.2.2 (23))) dX9_goWeek_95 fX_42_0 kX9 (by decide) lkf_X9_23 rfl ?_
    refine r_getf (v := .int (M.1 23 1)) dX9_goWeek_98 fX_23_1 kX3 (by decide) lkf_X9_67 rfl ?_
    refine r_icmp_ge (tgt := 141) dX9_goWeek_101 rfl (fun h11 => ?_) (fun h11 => ?_)
    · exact r_lk (hx M) (And.intro rfl (And.intro rfl (And.intro rfl True.intro)))
    refine r_aload_n dX9_goWeek_104 rfl ?_
    refine r_getf (v := .ref (G.2.2.2 (42 + 1))) dX9_goWeek_105 fX_42_1 kX9 (by decide) lkf_X9_11 rfl ?_
    refine r_bipush (x := 15) dX9_goWeek_108 rfl ?_
    refine r_iload_n dX9_goWeek_110 rfl ?_
    refine r_iconst (x := 3) dX9_goWeek_111 rfl ?_
    refine r_imul dX9_goWeek_112 ?_
    refine r_iadd dX9_goWeek_113 ?_
    refine r_iload_n dX9_goWeek_114 rfl ?_
    refine r_iadd dX9_goWeek_115 ?_
    refine r_iconst (x := 0) dX9_goWeek_116 rfl ?_
    refine c_V (inv_SN (mi := mi_X9_goWeek) (rest := []) (X11_put_ok G aX_43p ((15 + (c2 * 3)) + c3) 0 M) rfl (by decide) dX9_goWeek_117 lkm_X9_27 cal_X11_put rfl (Nat.le_of_ble_eq_true rfl) rfl) (fun M12 => ?_)
    refine r_aload_n dX9_goWeek_120 rfl ?_
    refine r_iload_n dX9_goWeek_121 rfl ?_
    refine r_iload_n dX9_goWeek_122 rfl ?_
    refine r_aload_n dX9_goWeek_123 rfl ?_
    refine r_getf (v := .ref (G.2.2.2 (23))) dX9_goWeek_124 fX_42_0 kX9 (by decide) lkf_X9_23 rfl ?_
    refine r_iload_n dX9_goWeek_127 rfl ?_
    refine r_iload_n dX9_goWeek_128 rfl ?_
    refine c_I (inv_V (mi := mi_X9_goWeek) (b := 23) (rest := [.int c3, .int c2, .ref (G.2.2.2 (42))]) (X3_wageOf_ok_23 G c2 c3 M12) rfl (by decide) dX9_goWeek_129 lkm_X9_121 cal_X3_wageOf cX_23 rfl rfl (Nat.le_of_ble_eq_true rfl) rfl) ?_
    refine c_V (inv_V (mi := mi_X9_goWeek) (b := 42) (rest := []) (X9_addToPurse_ok_42 G c2 c3 (X3_wageOf 23 c2 c3 M12) M12) rfl (by decide) dX9_goWeek_132 lkm_X9_79 cal_X9_addToPurse cX_42 rfl rfl (Nat.le_of_ble_eq_true rfl) rfl) (fun M13 => ?_)
    refine r_iinc (y := c3 + 1) (lv' := [some (.ref (G.2.2.2 (42))), some (.int e7), some (.int c2), some (.int (c3 + 1)), none]) dX9_goWeek_135 rfl rfl (Nat.le_of_ble_eq_true rfl) rfl rfl ?_
    refine r_goto (tgt := 93) dX9_goWeek_138 rfl ?_
    exact r_lk (ih (c3 + 1) M13) (And.intro rfl (And.intro rfl (And.intro rfl (And.intro rfl True.intro))))
set_option maxRecDepth 100000 in
set_option maxHeartbeats 4000000 in
theorem X9_goWeek_L2_ok_42 (G : Gh) (e7 : Int32) {dn : Option (Mem) → Option (Option Value × Mem)} (hs : dn none = none) (hx : ∀ (M15 : Mem), Wr G mi_X9_goWeek dn 147 [some (.ref (G.2.2.2 (42))), some (.int e7), none, none, none] [] M15 (some M15)) : ∀ (n : Nat) (c2 : Int32) (M : Mem), Wr G mi_X9_goWeek dn 68 [some (.ref (G.2.2.2 (42))), some (.int e7), some (.int c2), none, none] [] M (X9_goWeek_L2 42 n c2 M) := by
  intro n
  induction n with
  | zero => intro c2 M; exact r_none (by exact hs)
  | succ n ih =>
    intro c2 M
    rw [X9_goWeek_L2]
    refine r_iload_n dX9_goWeek_68 rfl ?_
    refine r_aload_n dX9_goWeek_69 rfl ?_
    refine r_getf (v := .ref (G.2.2.2 (23))) dX9_goWeek_70 fX_42_0 kX9 (by decide) lkf_X9_23 rfl ?_
    refine r_getf (v := .int (M.1 23 0)) dX9_goWeek_73 fX_23_0 kX3 (by decide) lkf_X9_40 rfl ?_
    refine r_icmp_ge (tgt := 147) dX9_goWeek_76 rfl (fun h9 => ?_) (fun h9 => ?_)
    · exact r_lk (hx M) (And.intro rfl (And.intro rfl True.intro))
    refine r_aload_n dX9_goWeek_79 rfl ?_
    refine r_getf (v := .ref (G.2.2.2 (42 + 1))) dX9_goWeek_80 fX_42_1 kX9 (by decide) lkf_X9_11 rfl ?_
    refine r_bipush (x := 35) dX9_goWeek_83 rfl ?_
    refine r_iload_n dX9_goWeek_85 rfl ?_
    refine r_iadd dX9_goWeek_86 ?_
    refine r_iconst (x := 0) dX9_goWeek_87 rfl ?_
    refine c_V (inv_SN (mi := mi_X9_goWeek) (rest := []) (X11_put_ok G aX_43p (35 + c2) 0 M) rfl (by decide) dX9_goWeek_88 lkm_X9_27 cal_X11_put rfl (Nat.le_of_ble_eq_true rfl) rfl) (fun M10 => ?_)
    refine r_iconst (x := 0) dX9_goWeek_91 rfl ?_
    refine r_istore_n (lv' := [some (.ref (G.2.2.2 (42))), some (.int e7), some (.int c2), some (.int 0), none]) dX9_goWeek_92 (Nat.le_of_ble_eq_true rfl) rfl rfl ?_
    refine r_jB1 (j := 141) (lvj := fun M14 => [some (.ref (G.2.2.2 (42))), some (.int e7), some (.int c2), none, none]) (stj := fun M14 => []) (Mj := fun M14 => M14) (fun M14 => ?_) (fun hj141 => ?_)
    · refine r_iinc (y := c2 + 1) (lv' := [some (.ref (G.2.2.2 (42))), some (.int e7), some (.int (c2 + 1)), none, none]) dX9_goWeek_141 rfl rfl (Nat.le_of_ble_eq_true rfl) rfl rfl ?_
      refine r_goto (tgt := 68) dX9_goWeek_144 rfl ?_
      exact r_lk (ih (c2 + 1) M14) (And.intro rfl (And.intro rfl (And.intro rfl True.intro)))
    exact r_lk (X9_goWeek_L3_ok_42 G c2 e7 (by exact hs) hj141 zFU 0 M10) (And.intro rfl (And.intro rfl (And.intro rfl (And.intro rfl True.intro))))
set_option maxRecDepth 100000 in
set_option maxHeartbeats 4000000 in
theorem X9_goWeek_L1_ok_42 (G : Gh) {dn : Option (Int32 × Mem) → Option (Option Value × Mem)} (hs : dn none = none) (hx : ∀ (e7 : Int32) (M8 : Mem), Wr G mi_X9_goWeek dn 66 [some (.ref (G.2.2.2 (42))), some (.int e7), none, none, none] [] M8 (some (e7, M8))) : ∀ (n : Nat) (c1 : Int32) (c2 : Int32) (M : Mem), Wr G mi_X9_goWeek dn 8 [some (.ref (G.2.2.2 (42))), some (.int c1), some (.int c2), none, none] [] M (X9_goWeek_L1 42 n c1 c2 M) := by
  intro n
  induction n with
  | zero => intro c1 c2 M; exact r_none (by exact hs)
  | succ n ih =>
    intro c1 c2 M
    rw [X9_goWeek_L1]
    refine r_iload_n dX9_goWeek_8 rfl ?_
    refine r_aload_n dX9_goWeek_9 rfl ?_
    refine r_getf (v := .ref (G.2.2.2 (23))) dX9_goWeek_10 fX_42_0 kX9 (by decide) lkf_X9_23 rfl ?_
    refine r_getf (v := .int (M.1 23 0)) dX9_goWeek_13 fX_23_0 kX3 (by decide) lkf_X9_40 rfl ?_
    refine r_icmp_ge (tgt := 66) dX9_goWeek_16 rfl (fun h2 => ?_) (fun h2 => ?_)
    · exact r_lk (hx c1 M) (And.intro rfl (And.intro rfl True.intro))
    refine r_aload_n dX9_goWeek_19 rfl ?_
    refine r_iload_n dX9_goWeek_20 rfl ?_
    refine c_OIM (by exact hs) (inv_V (mi := mi_X9_goWeek) (b := 42) (rest := []) (X9_growthOf_ok_42 G c2 M) rfl (by decide) dX9_goWeek_21 lkm_X9_118 cal_X9_growthOf cX_42 rfl rfl (Nat.le_of_ble_eq_true rfl) rfl) (fun v3 M4 => ?_)
    refine r_istore_n (lv' := [some (.ref (G.2.2.2 (42))), some (.int c1), some (.int c2), some (.int v3), none]) dX9_goWeek_24 (Nat.le_of_ble_eq_true rfl) rfl rfl ?_
    refine r_iconst (x := 0) dX9_goWeek_25 rfl ?_
    refine r_bipush (x := 99) dX9_goWeek_26 rfl ?_
    refine r_aload_n dX9_goWeek_28 rfl ?_
    refine r_iload_n dX9_goWeek_29 rfl ?_
    refine c_I (inv_V (mi := mi_X9_goWeek) (b := 42) (rest := [.int 99, .int 0]) (X9_cropOf_ok_42 G c2 M4) rfl (by decide) dX9_goWeek_30 lkm_X9_97 cal_X9_cropOf cX_42 rfl rfl (Nat.le_of_ble_eq_true rfl) rfl) ?_
    refine r_iload_n dX9_goWeek_33 rfl ?_
    refine r_iadd dX9_goWeek_34 ?_
    refine r_min dX9_goWeek_35 lkm_X9_74 tw_mmin1 tw_m2 tw_mmin3 (by decide) (Nat.le_of_ble_eq_true rfl) ?_
    refine r_max dX9_goWeek_38 lkm_X9_112 tw_mmax1 tw_m2 tw_mmax3 (by decide) (Nat.le_of_ble_eq_true rfl) ?_
    refine r_letI (fun y5 => ?_)
    refine r_istore (lv' := [some (.ref (G.2.2.2 (42))), some (.int c1), some (.int c2), some (.int v3), some (.int y5)]) dX9_goWeek_41 (Nat.le_of_ble_eq_true rfl) rfl rfl ?_
    refine r_aload_n dX9_goWeek_43 rfl ?_
    refine r_getf (v := .ref (G.2.2.2 (42 + 1))) dX9_goWeek_44 fX_42_1 kX9 (by decide) lkf_X9_11 rfl ?_
    refine r_bipush (x := 30) dX9_goWeek_47 rfl ?_
    refine r_iload_n dX9_goWeek_49 rfl ?_
    refine r_iadd dX9_goWeek_50 ?_
    refine r_iload dX9_goWeek_51 rfl ?_
    refine c_V (inv_SN (mi := mi_X9_goWeek) (rest := []) (X11_put_ok G aX_43p (30 + c2) y5 M4) rfl (by decide) dX9_goWeek_53 lkm_X9_27 cal_X11_put rfl (Nat.le_of_ble_eq_true rfl) rfl) (fun M6 => ?_)
    refine r_iload_n dX9_goWeek_56 rfl ?_
    refine r_iload_n dX9_goWeek_57 rfl ?_
    refine r_iadd dX9_goWeek_58 ?_
    refine r_istore_n (lv' := [some (.ref (G.2.2.2 (42))), some (.int (c1 + v3)), some (.int c2), some (.int v3), some (.int y5)]) dX9_goWeek_59 (Nat.le_of_ble_eq_true rfl) rfl rfl ?_
    refine r_iinc (y := c2 + 1) (lv' := [some (.ref (G.2.2.2 (42))), some (.int (c1 + v3)), some (.int (c2 + 1)), some (.int v3), some (.int y5)]) dX9_goWeek_60 rfl rfl (Nat.le_of_ble_eq_true rfl) rfl rfl ?_
    refine r_goto (tgt := 8) dX9_goWeek_63 rfl ?_
    exact r_lk (ih (c1 + v3) (c2 + 1) M6) (And.intro rfl (And.intro rfl (And.intro rfl True.intro)))
set_option maxRecDepth 100000 in
set_option maxHeartbeats 4000000 in
theorem X9_goWeek_ok_42 (G : Gh) (M : Mem) : Mt G mi_X9_goWeek [.ref (G.2.2.2 (42))] M ((dO dIM) (X9_goWeek 42 M)) := by
  refine Mt_of (lv := [some (.ref (G.2.2.2 (42)))]) (by decide) rfl (Nat.le_of_ble_eq_true rfl) rfl ?_
  refine r_le (lv' := [some (.ref (G.2.2.2 (42))), none, none, none, none]) (And.intro rfl True.intro) ?_
  unfold X9_goWeek
  refine r_aload_n dX9_goWeek_0 rfl ?_
  refine c_OV rfl (inv_V (mi := mi_X9_goWeek) (b := 42) (rest := []) (X9_spendLoose_ok_42 G M) rfl (by decide) dX9_goWeek_1 lkm_X9_115 cal_X9_spendLoose cX_42 rfl rfl (Nat.le_of_ble_eq_true rfl) rfl) (fun M1 => ?_)
  refine r_iconst (x := 0) dX9_goWeek_4 rfl ?_
  refine r_istore_n (lv' := [some (.ref (G.2.2.2 (42))), some (.int 0), none, none, none]) dX9_goWeek_5 (Nat.le_of_ble_eq_true rfl) rfl rfl ?_
  refine r_iconst (x := 0) dX9_goWeek_6 rfl ?_
  refine r_istore_n (lv' := [some (.ref (G.2.2.2 (42))), some (.int 0), some (.int 0), none, none]) dX9_goWeek_7 (Nat.le_of_ble_eq_true rfl) rfl rfl ?_
  refine r_jB2 (j := 66) (lvj := fun e7 M8 => [some (.ref (G.2.2.2 (42))), some (.int e7), none, none, none]) (stj := fun e7 M8 => []) (Mj := fun e7 M8 => M8) (fun e7 M8 => ?_) (fun hj66 => ?_)
  · refine r_iconst (x := 0) dX9_goWeek_66 rfl ?_
    refine r_istore_n (lv' := [some (.ref (G.2.2.2 (42))), some (.int e7), some (.int 0), none, none]) dX9_goWeek_67 (Nat.le_of_ble_eq_true rfl) rfl rfl ?_
    refine r_jB1 (j := 147) (lvj := fun M15 => [some (.ref (G.2.2.2 (42))), some (.int e7), none, none, none]) (stj := fun M15 => []) (Mj := fun M15 => M15) (fun M15 => ?_) (fun hj147 => ?_)
    · refine r_aload_n dX9_goWeek_147 rfl ?_
      refine r_getf (v := .ref (G.2.2.2 (42 + 1))) dX9_goWeek_148 fX_42_1 kX9 (by decide) lkf_X9_11 rfl ?_
      refine r_bipush (x := 40) dX9_goWeek_151 rfl ?_
      refine r_aload_n dX9_goWeek_153 rfl ?_
      refine c_I (inv_V (mi := mi_X9_goWeek) (b := 42) (rest := [.int 40, .ref (G.2.2.2 (42 + 1))]) (X9_weekNow_ok_42 G M15) rfl (by decide) dX9_goWeek_154 lkm_X9_100 cal_X9_weekNow cX_42 rfl rfl (Nat.le_of_ble_eq_true rfl) rfl) ?_
      refine r_iconst (x := 1) dX9_goWeek_157 rfl ?_
      refine r_iadd dX9_goWeek_158 ?_
      refine c_V (inv_SN (mi := mi_X9_goWeek) (rest := []) (X11_put_ok G aX_43p 40 ((X9_weekNow 42 M15) + 1) M15) rfl (by decide) dX9_goWeek_159 lkm_X9_27 cal_X11_put rfl (Nat.le_of_ble_eq_true rfl) rfl) (fun M16 => ?_)
      refine r_iload_n dX9_goWeek_162 rfl ?_
      exact r_iret (ty := .int) dX9_goWeek_163 rfl rfl rfl
    exact r_lk (X9_goWeek_L2_ok_42 G e7 rfl hj147 zFU 0 M8) (And.intro rfl (And.intro rfl (And.intro rfl True.intro)))
  exact r_lk (X9_goWeek_L1_ok_42 G rfl hj66 zFU 0 0 M1) (And.intro rfl (And.intro rfl (And.intro rfl True.intro)))

theorem dX11_week_0 : decode cX11_week 0 = .ok (.aload_n 0, 1) := by decide +kernel
theorem dX11_week_1 : decode cX11_week 1 = .ok (.getfield 37, 3) := by decide +kernel
theorem dX11_week_4 : decode cX11_week 4 = .ok (.invokevirtual 186, 3) := by decide +kernel
theorem dX11_week_7 : decode cX11_week 7 = .ok (.sipush 999, 3) := by decide +kernel
theorem dX11_week_10 : decode cX11_week 10 = .ok (.if_icmp .lt 6, 3) := by decide +kernel
theorem dX11_week_13 : decode cX11_week 13 = .ok (.ldc 123, 2) := by decide +kernel
theorem dX11_week_15 : decode cX11_week 15 = .ok (.ireturn, 1) := by decide +kernel
theorem dX11_week_16 : decode cX11_week 16 = .ok (.aload_n 0, 1) := by decide +kernel
theorem dX11_week_17 : decode cX11_week 17 = .ok (.getfield 37, 3) := by decide +kernel
theorem dX11_week_20 : decode cX11_week 20 = .ok (.invokevirtual 189, 3) := by decide +kernel
theorem dX11_week_23 : decode cX11_week 23 = .ok (.istore_n 1, 1) := by decide +kernel
theorem dX11_week_24 : decode cX11_week 24 = .ok (.aload_n 0, 1) := by decide +kernel
theorem dX11_week_25 : decode cX11_week 25 = .ok (.getfield 46, 3) := by decide +kernel
theorem dX11_week_28 : decode cX11_week 28 = .ok (.invokevirtual 174, 3) := by decide +kernel
theorem dX11_week_31 : decode cX11_week 31 = .ok (.iload_n 1, 1) := by decide +kernel
theorem dX11_week_32 : decode cX11_week 32 = .ok (.ireturn, 1) := by decide +kernel
abbrev mi_X11_week : MI := (zTX, RX11, yX11_week, cX11_week, 2, (some .int), 12)
theorem cal_X11_week : zCalV mi_X11_week 0 := ⟨⟨zTB_i4 204 (by decide +kernel), zTB_i4 202 (by decide +kernel), zTB_i4 203 (by decide +kernel), zTB_i1 1 (by decide +kernel)⟩, ⟨by decide, by decide, by decide +kernel⟩, by decide⟩
noncomputable def X11_week (M : Mem) : Option (Int32 × Mem) :=
  if (X9_weekNow 35 M) < 999 then
    bp_ (X9_goWeek 35 M) fun v2 M3 =>
    bo_ (X0_keep M3) fun M4 =>
    some (v2, M4)
  else
  some ((-1000000), M)
set_option maxRecDepth 100000 in
set_option maxHeartbeats 4000000 in
theorem X11_week_ok (G : Gh) (M : Mem) : Mt G mi_X11_week [.ref (G.2.2.2 (0))] M ((dO dIM) (X11_week M)) := by
  refine Mt_of (lv := [some (.ref (G.2.2.2 (0)))]) (by decide) rfl (Nat.le_of_ble_eq_true rfl) rfl ?_
  refine r_le (lv' := [some (.ref (G.2.2.2 (0))), none]) (And.intro rfl True.intro) ?_
  unfold X11_week
  refine r_aload_n dX11_week_0 rfl ?_
  refine r_getf (v := .ref (G.2.2.2 (35))) dX11_week_1 fX_0_3 kX11 (by decide) lkf_X11_37 rfl ?_
  refine c_I (inv_V (mi := mi_X11_week) (b := 35) (rest := []) (X9_weekNow_ok_35 G M) rfl (by decide) dX11_week_4 lkm_X11_186 cal_X9_weekNow cX_35 rfl rfl (Nat.le_of_ble_eq_true rfl) rfl) ?_
  refine r_sipush (x := 999) dX11_week_7 rfl ?_
  refine r_icmp_lt (tgt := 16) dX11_week_10 rfl (fun h1 => ?_) (fun h1 => ?_)
  · refine r_aload_n dX11_week_16 rfl ?_
    refine r_getf (v := .ref (G.2.2.2 (35))) dX11_week_17 fX_0_3 kX11 (by decide) lkf_X11_37 rfl ?_
    refine c_OIM rfl (inv_V (mi := mi_X11_week) (b := 35) (rest := []) (X9_goWeek_ok_35 G M) rfl (by decide) dX11_week_20 lkm_X11_189 cal_X9_goWeek cX_35 rfl rfl (Nat.le_of_ble_eq_true rfl) rfl) (fun v2 M3 => ?_)
    refine r_istore_n (lv' := [some (.ref (G.2.2.2 (0))), some (.int v2)]) dX11_week_23 (Nat.le_of_ble_eq_true rfl) rfl rfl ?_
    refine r_aload_n dX11_week_24 rfl ?_
    refine r_getf (v := .ref (G.2.2.2 (39))) dX11_week_25 fX_0_4 kX11 (by decide) lkf_X11_46 rfl ?_
    refine c_OV rfl (inv_V (mi := mi_X11_week) (b := 39) (rest := []) (X0_keep_ok G M3) rfl (by decide) dX11_week_28 lkm_X11_174 cal_X0_keep cX_39 rfl rfl (Nat.le_of_ble_eq_true rfl) rfl) (fun M4 => ?_)
    refine r_iload_n dX11_week_31 rfl ?_
    exact r_iret (ty := .int) dX11_week_32 rfl rfl rfl
  refine r_ldcI (x := (-1000000)) dX11_week_13 lkc_X11_123 ?_
  exact r_iret (ty := .int) dX11_week_15 rfl rfl rfl

theorem dX9_loadFrom_0 : decode cX9_loadFrom 0 = .ok (.iload_n 2, 1) := by decide +kernel
theorem dX9_loadFrom_1 : decode cX9_loadFrom 1 = .ok (.ifCond .lt 27, 3) := by decide +kernel
theorem dX9_loadFrom_4 : decode cX9_loadFrom 4 = .ok (.iload_n 2, 1) := by decide +kernel
theorem dX9_loadFrom_5 : decode cX9_loadFrom 5 = .ok (.aload_n 1, 1) := by decide +kernel
theorem dX9_loadFrom_6 : decode cX9_loadFrom 6 = .ok (.arraylength, 1) := by decide +kernel
theorem dX9_loadFrom_7 : decode cX9_loadFrom 7 = .ok (.bipush 42, 2) := by decide +kernel
theorem dX9_loadFrom_9 : decode cX9_loadFrom 9 = .ok (.idiv, 1) := by decide +kernel
theorem dX9_loadFrom_10 : decode cX9_loadFrom 10 = .ok (.if_icmp .ge 18, 3) := by decide +kernel
theorem dX9_loadFrom_13 : decode cX9_loadFrom 13 = .ok (.aload_n 1, 1) := by decide +kernel
theorem dX9_loadFrom_14 : decode cX9_loadFrom 14 = .ok (.iload_n 2, 1) := by decide +kernel
theorem dX9_loadFrom_15 : decode cX9_loadFrom 15 = .ok (.bipush 42, 2) := by decide +kernel
theorem dX9_loadFrom_17 : decode cX9_loadFrom 17 = .ok (.imul, 1) := by decide +kernel
theorem dX9_loadFrom_18 : decode cX9_loadFrom 18 = .ok (.aload_n 0, 1) := by decide +kernel
theorem dX9_loadFrom_19 : decode cX9_loadFrom 19 = .ok (.getfield 11, 3) := by decide +kernel
theorem dX9_loadFrom_22 : decode cX9_loadFrom 22 = .ok (.iconst 0, 1) := by decide +kernel
theorem dX9_loadFrom_23 : decode cX9_loadFrom 23 = .ok (.bipush 42, 2) := by decide +kernel
theorem dX9_loadFrom_25 : decode cX9_loadFrom 25 = .ok (.invokestatic 54, 3) := by decide +kernel
theorem dX9_loadFrom_28 : decode cX9_loadFrom 28 = .ok (.return_, 1) := by decide +kernel
abbrev mi_X9_loadFrom : MI := (zTX, RX9, yX9_loadFrom, cX9_loadFrom, 3, none, 8)
theorem cal_X9_loadFrom : zCalV mi_X9_loadFrom 2 := ⟨⟨zTB_i4 233 (by decide +kernel), zTB_i4 231 (by decide +kernel), zTB_i4 232 (by decide +kernel), zTB_i1 8 (by decide +kernel)⟩, ⟨by decide, by decide, by decide +kernel⟩, by decide⟩
noncomputable def X9_loadFrom (o0 : Nat) (a1 : Nat) (x2 : Int32) (M : Mem) : Option (Mem) :=
  if x2 < 0 then
    some M
  else
  if ((nI (zlen zTX a1)) / 42) ≤ x2 then
    some M
  else
  gd_ (cpOk (x2 * 42) 0 42 (zlen zTX a1) (42) = true) (
  lt_ (uC M a1 (o0 + 1) ((x2 * 42).toNatClampNeg) ((0 : Int32).toNatClampNeg) ((42 : Int32).toNatClampNeg)) fun M3 =>
  some M3)
set_option maxRecDepth 100000 in
set_option maxHeartbeats 4000000 in
theorem X9_loadFrom_ok_35 (G : Gh) {a1 : Nat} (ha1 : zar zTX a1 = some (0, zlen zTX a1)) (x2 : Int32) (M : Mem) : Mt G mi_X9_loadFrom [.ref (G.2.2.2 (35)), .ref (G.2.2.2 (a1)), .int x2] M ((dO dV) (X9_loadFrom 35 a1 x2 M)) := by
  refine Mt_of (lv := [some (.ref (G.2.2.2 (35))), some (.ref (G.2.2.2 (a1))), some (.int x2)]) (by decide) rfl (Nat.le_of_ble_eq_true rfl) rfl ?_
  unfold X9_loadFrom
  refine r_iload_n dX9_loadFrom_0 rfl ?_
  refine r_if_lt (tgt := 28) dX9_loadFrom_1 rfl (fun h1 => ?_) (fun h1 => ?_)
  · exact r_vret dX9_loadFrom_28 rfl rfl
  refine r_iload_n dX9_loadFrom_4 rfl ?_
  refine r_aload_n dX9_loadFrom_5 rfl ?_
  refine r_alen (v := nI (zlen zTX a1)) dX9_loadFrom_6 ha1 (by decide) rfl ?_
  refine r_bipush (x := 42) dX9_loadFrom_7 rfl ?_
  refine r_idiv dX9_loadFrom_9 (by decide) ?_
  refine r_icmp_ge (tgt := 28) dX9_loadFrom_10 rfl (fun h2 => ?_) (fun h2 => ?_)
  · exact r_vret dX9_loadFrom_28 rfl rfl
  refine r_aload_n dX9_loadFrom_13 rfl ?_
  refine r_iload_n dX9_loadFrom_14 rfl ?_
  refine r_bipush (x := 42) dX9_loadFrom_15 rfl ?_
  refine r_imul dX9_loadFrom_17 ?_
  refine r_aload_n dX9_loadFrom_18 rfl ?_
  refine r_getf (v := .ref (G.2.2.2 (35 + 1))) dX9_loadFrom_19 fX_35_1 kX9 (by decide) lkf_X9_11 rfl ?_
  refine r_iconst (x := 0) dX9_loadFrom_22 rfl ?_
  refine r_bipush (x := 42) dX9_loadFrom_23 rfl ?_
  refine r_gd rfl (fun g4 => ?_)
  refine r_copy dX9_loadFrom_25 lkm_X9_54 tw_c1 tw_c2 tw_c3 ha1 aX_36 g4 (by decide) (Nat.le_of_ble_eq_true rfl) (fun M3 => ?_)
  exact r_vret dX9_loadFrom_28 rfl rfl
set_option maxRecDepth 100000 in
set_option maxHeartbeats 4000000 in
theorem X9_loadFrom_ok_42 (G : Gh) {a1 : Nat} (ha1 : zar zTX a1 = some (0, zlen zTX a1)) (x2 : Int32) (M : Mem) : Mt G mi_X9_loadFrom [.ref (G.2.2.2 (42)), .ref (G.2.2.2 (a1)), .int x2] M ((dO dV) (X9_loadFrom 42 a1 x2 M)) := by
  refine Mt_of (lv := [some (.ref (G.2.2.2 (42))), some (.ref (G.2.2.2 (a1))), some (.int x2)]) (by decide) rfl (Nat.le_of_ble_eq_true rfl) rfl ?_
  unfold X9_loadFrom
  refine r_iload_n dX9_loadFrom_0 rfl ?_
  refine r_if_lt (tgt := 28) dX9_loadFrom_1 rfl (fun h1 => ?_) (fun h1 => ?_)
  · exact r_vret dX9_loadFrom_28 rfl rfl
  refine r_iload_n dX9_loadFrom_4 rfl ?_
  refine r_aload_n dX9_loadFrom_5 rfl ?_
  refine r_alen (v := nI (zlen zTX a1)) dX9_loadFrom_6 ha1 (by decide) rfl ?_
  refine r_bipush (x := 42) dX9_loadFrom_7 rfl ?_
  refine r_idiv dX9_loadFrom_9 (by decide) ?_
  refine r_icmp_ge (tgt := 28) dX9_loadFrom_10 rfl (fun h2 => ?_) (fun h2 => ?_)
  · exact r_vret dX9_loadFrom_28 rfl rfl
  refine r_aload_n dX9_loadFrom_13 rfl ?_
  refine r_iload_n dX9_loadFrom_14 rfl ?_
  refine r_bipush (x := 42) dX9_loadFrom_15 rfl ?_
  refine r_imul dX9_loadFrom_17 ?_
  refine r_aload_n dX9_loadFrom_18 rfl ?_
  refine r_getf (v := .ref (G.2.2.2 (42 + 1))) dX9_loadFrom_19 fX_42_1 kX9 (by decide) lkf_X9_11 rfl ?_
  refine r_iconst (x := 0) dX9_loadFrom_22 rfl ?_
  refine r_bipush (x := 42) dX9_loadFrom_23 rfl ?_
  refine r_gd rfl (fun g4 => ?_)
  refine r_copy dX9_loadFrom_25 lkm_X9_54 tw_c1 tw_c2 tw_c3 ha1 aX_43 g4 (by decide) (Nat.le_of_ble_eq_true rfl) (fun M3 => ?_)
  exact r_vret dX9_loadFrom_28 rfl rfl

theorem dX0_goBack_0 : decode cX0_goBack 0 = .ok (.aload_n 0, 1) := by decide +kernel
theorem dX0_goBack_1 : decode cX0_goBack 1 = .ok (.getfield 23, 3) := by decide +kernel
theorem dX0_goBack_4 : decode cX0_goBack 4 = .ok (.ifCond .ne 5, 3) := by decide +kernel
theorem dX0_goBack_7 : decode cX0_goBack 7 = .ok (.iconst 0, 1) := by decide +kernel
theorem dX0_goBack_8 : decode cX0_goBack 8 = .ok (.ireturn, 1) := by decide +kernel
theorem dX0_goBack_9 : decode cX0_goBack 9 = .ok (.aload_n 0, 1) := by decide +kernel
theorem dX0_goBack_10 : decode cX0_goBack 10 = .ok (.dup, 1) := by decide +kernel
theorem dX0_goBack_11 : decode cX0_goBack 11 = .ok (.getfield 23, 3) := by decide +kernel
theorem dX0_goBack_14 : decode cX0_goBack 14 = .ok (.iconst 1, 1) := by decide +kernel
theorem dX0_goBack_15 : decode cX0_goBack 15 = .ok (.isub, 1) := by decide +kernel
theorem dX0_goBack_16 : decode cX0_goBack 16 = .ok (.putfield 23, 3) := by decide +kernel
theorem dX0_goBack_19 : decode cX0_goBack 19 = .ok (.aload_n 0, 1) := by decide +kernel
theorem dX0_goBack_20 : decode cX0_goBack 20 = .ok (.getfield 15, 3) := by decide +kernel
theorem dX0_goBack_23 : decode cX0_goBack 23 = .ok (.aload_n 0, 1) := by decide +kernel
theorem dX0_goBack_24 : decode cX0_goBack 24 = .ok (.getfield 11, 3) := by decide +kernel
theorem dX0_goBack_27 : decode cX0_goBack 27 = .ok (.aload_n 0, 1) := by decide +kernel
theorem dX0_goBack_28 : decode cX0_goBack 28 = .ok (.invokevirtual 33, 3) := by decide +kernel
theorem dX0_goBack_31 : decode cX0_goBack 31 = .ok (.invokevirtual 37, 3) := by decide +kernel
theorem dX0_goBack_34 : decode cX0_goBack 34 = .ok (.iconst 1, 1) := by decide +kernel
theorem dX0_goBack_35 : decode cX0_goBack 35 = .ok (.ireturn, 1) := by decide +kernel
abbrev mi_X0_goBack : MI := (zTX, RX0, yX0_goBack, cX0_goBack, 1, (some .boolean), 9)
theorem cal_X0_goBack : zCalV mi_X0_goBack 0 := ⟨⟨zTB_i4 229 (by decide +kernel), zTB_i4 227 (by decide +kernel), zTB_i4 228 (by decide +kernel), zTB_i1 9 (by decide +kernel)⟩, ⟨by decide, by decide, by decide +kernel⟩, by decide⟩
noncomputable def X0_goBack (M : Mem) : Option (Bool × Mem) :=
  if (M.1 39 3) = 0 then
    some (false, M)
  else
  lt_ (uI M 39 3 ((M.1 39 3) - 1)) fun M2 =>
  bo_ (X9_loadFrom 35 40 (X0_slotOfNow M2) M2) fun M3 =>
  some (true, M3)
set_option maxRecDepth 100000 in
set_option maxHeartbeats 4000000 in
theorem X0_goBack_ok (G : Gh) (M : Mem) : Mt G mi_X0_goBack [.ref (G.2.2.2 (39))] M ((dO dZM) (X0_goBack M)) := by
  refine Mt_of (lv := [some (.ref (G.2.2.2 (39)))]) (by decide) rfl (Nat.le_of_ble_eq_true rfl) rfl ?_
  unfold X0_goBack
  refine r_aload_n dX0_goBack_0 rfl ?_
  refine r_getf (v := .int (M.1 39 3)) dX0_goBack_1 fX_39_3 kX0 (by decide) lkf_X0_23 rfl ?_
  refine r_if_ne (tgt := 9) dX0_goBack_4 rfl (fun h1 => ?_) (fun h1 => ?_)
  · refine r_iconst (x := 0) dX0_goBack_7 rfl ?_
    exact r_iret (ty := .boolean) dX0_goBack_8 rfl rfl rfl
  refine r_aload_n dX0_goBack_9 rfl ?_
  refine r_dup dX0_goBack_10 rfl ?_
  refine r_getf (v := .int (M.1 39 3)) dX0_goBack_11 fX_39_3 kX0 (by decide) lkf_X0_23 rfl ?_
  refine r_iconst (x := 1) dX0_goBack_14 rfl ?_
  refine r_isub dX0_goBack_15 ?_
  refine r_putI dX0_goBack_16 fX_39_3 kX0 (by decide) rfl rfl lkf_X0_23 (fun _ => rfl) rfl rfl (fun M2 => ?_)
  refine r_aload_n dX0_goBack_19 rfl ?_
  refine r_getf (v := .ref (G.2.2.2 (35))) dX0_goBack_20 fX_39_0 kX0 (by decide) lkf_X0_15 rfl ?_
  refine r_aload_n dX0_goBack_23 rfl ?_
  refine r_getf (v := .ref (G.2.2.2 (40))) dX0_goBack_24 fX_39_1 kX0 (by decide) lkf_X0_11 rfl ?_
  refine r_aload_n dX0_goBack_27 rfl ?_
  refine c_I (inv_V (mi := mi_X0_goBack) (b := 39) (rest := [.ref (G.2.2.2 (40)), .ref (G.2.2.2 (35))]) (X0_slotOfNow_ok G M2) rfl (by decide) dX0_goBack_28 lkm_X0_33 cal_X0_slotOfNow cX_39 rfl rfl (Nat.le_of_ble_eq_true rfl) rfl) ?_
  refine c_OV rfl (inv_V (mi := mi_X0_goBack) (b := 35) (rest := []) (X9_loadFrom_ok_35 G aX_40p (X0_slotOfNow M2) M2) rfl (by decide) dX0_goBack_31 lkm_X0_37 cal_X9_loadFrom cX_35 rfl rfl (Nat.le_of_ble_eq_true rfl) rfl) (fun M3 => ?_)
  refine r_iconst (x := 1) dX0_goBack_34 rfl ?_
  exact r_iret (ty := .boolean) dX0_goBack_35 rfl rfl rfl

theorem dX11_undo_0 : decode cX11_undo 0 = .ok (.aload_n 0, 1) := by decide +kernel
theorem dX11_undo_1 : decode cX11_undo 1 = .ok (.getfield 46, 3) := by decide +kernel
theorem dX11_undo_4 : decode cX11_undo 4 = .ok (.invokevirtual 192, 3) := by decide +kernel
theorem dX11_undo_7 : decode cX11_undo 7 = .ok (.ireturn, 1) := by decide +kernel
abbrev mi_X11_undo : MI := (zTX, RX11, yX11_undo, cX11_undo, 1, (some .boolean), 10)
theorem cal_X11_undo : zCalV mi_X11_undo 0 := ⟨⟨zTB_i4 225 (by decide +kernel), zTB_i4 223 (by decide +kernel), zTB_i4 224 (by decide +kernel), zTB_i1 1 (by decide +kernel)⟩, ⟨by decide, by decide, by decide +kernel⟩, by decide⟩
noncomputable def X11_undo (M : Mem) : Option (Bool × Mem) :=
  bp_ (X0_goBack M) fun b1 M2 =>
  some (b1, M2)
set_option maxRecDepth 100000 in
set_option maxHeartbeats 4000000 in
theorem X11_undo_ok (G : Gh) (M : Mem) : Mt G mi_X11_undo [.ref (G.2.2.2 (0))] M ((dO dZM) (X11_undo M)) := by
  refine Mt_of (lv := [some (.ref (G.2.2.2 (0)))]) (by decide) rfl (Nat.le_of_ble_eq_true rfl) rfl ?_
  unfold X11_undo
  refine r_aload_n dX11_undo_0 rfl ?_
  refine r_getf (v := .ref (G.2.2.2 (39))) dX11_undo_1 fX_0_4 kX11 (by decide) lkf_X11_46 rfl ?_
  refine c_OZM rfl (inv_V (mi := mi_X11_undo) (b := 39) (rest := []) (X0_goBack_ok G M) rfl (by decide) dX11_undo_4 lkm_X11_192 cal_X0_goBack cX_39 rfl rfl (Nat.le_of_ble_eq_true rfl) rfl) (fun b1 M2 => ?_)
  exact r_iret (ty := .boolean) dX11_undo_7 rfl (b2i_n _) rfl

theorem dX0_goOn_0 : decode cX0_goOn 0 = .ok (.aload_n 0, 1) := by decide +kernel
theorem dX0_goOn_1 : decode cX0_goOn 1 = .ok (.getfield 23, 3) := by decide +kernel
theorem dX0_goOn_4 : decode cX0_goOn 4 = .ok (.aload_n 0, 1) := by decide +kernel
theorem dX0_goOn_5 : decode cX0_goOn 5 = .ok (.getfield 26, 3) := by decide +kernel
theorem dX0_goOn_8 : decode cX0_goOn 8 = .ok (.if_icmp .lt 5, 3) := by decide +kernel
theorem dX0_goOn_11 : decode cX0_goOn 11 = .ok (.iconst 0, 1) := by decide +kernel
theorem dX0_goOn_12 : decode cX0_goOn 12 = .ok (.ireturn, 1) := by decide +kernel
theorem dX0_goOn_13 : decode cX0_goOn 13 = .ok (.aload_n 0, 1) := by decide +kernel
theorem dX0_goOn_14 : decode cX0_goOn 14 = .ok (.dup, 1) := by decide +kernel
theorem dX0_goOn_15 : decode cX0_goOn 15 = .ok (.getfield 23, 3) := by decide +kernel
theorem dX0_goOn_18 : decode cX0_goOn 18 = .ok (.iconst 1, 1) := by decide +kernel
theorem dX0_goOn_19 : decode cX0_goOn 19 = .ok (.iadd, 1) := by decide +kernel
theorem dX0_goOn_20 : decode cX0_goOn 20 = .ok (.putfield 23, 3) := by decide +kernel
theorem dX0_goOn_23 : decode cX0_goOn 23 = .ok (.aload_n 0, 1) := by decide +kernel
theorem dX0_goOn_24 : decode cX0_goOn 24 = .ok (.getfield 15, 3) := by decide +kernel
theorem dX0_goOn_27 : decode cX0_goOn 27 = .ok (.aload_n 0, 1) := by decide +kernel
theorem dX0_goOn_28 : decode cX0_goOn 28 = .ok (.getfield 11, 3) := by decide +kernel
theorem dX0_goOn_31 : decode cX0_goOn 31 = .ok (.aload_n 0, 1) := by decide +kernel
theorem dX0_goOn_32 : decode cX0_goOn 32 = .ok (.invokevirtual 33, 3) := by decide +kernel
theorem dX0_goOn_35 : decode cX0_goOn 35 = .ok (.invokevirtual 37, 3) := by decide +kernel
theorem dX0_goOn_38 : decode cX0_goOn 38 = .ok (.iconst 1, 1) := by decide +kernel
theorem dX0_goOn_39 : decode cX0_goOn 39 = .ok (.ireturn, 1) := by decide +kernel
abbrev mi_X0_goOn : MI := (zTX, RX0, yX0_goOn, cX0_goOn, 1, (some .boolean), 9)
theorem cal_X0_goOn : zCalV mi_X0_goOn 0 := ⟨⟨zTB_i5 1 (by decide +kernel), zTB_i4 239 (by decide +kernel), zTB_i5 0 (by decide +kernel), zTB_i1 9 (by decide +kernel)⟩, ⟨by decide, by decide, by decide +kernel⟩, by decide⟩
noncomputable def X0_goOn (M : Mem) : Option (Bool × Mem) :=
  if (M.1 39 3) < (M.1 39 4) then
    lt_ (uI M 39 3 ((M.1 39 3) + 1)) fun M2 =>
    bo_ (X9_loadFrom 35 40 (X0_slotOfNow M2) M2) fun M3 =>
    some (true, M3)
  else
  some (false, M)
set_option maxRecDepth 100000 in
set_option maxHeartbeats 4000000 in
theorem X0_goOn_ok (G : Gh) (M : Mem) : Mt G mi_X0_goOn [.ref (G.2.2.2 (39))] M ((dO dZM) (X0_goOn M)) := by
  refine Mt_of (lv := [some (.ref (G.2.2.2 (39)))]) (by decide) rfl (Nat.le_of_ble_eq_true rfl) rfl ?_
  unfold X0_goOn
  refine r_aload_n dX0_goOn_0 rfl ?_
  refine r_getf (v := .int (M.1 39 3)) dX0_goOn_1 fX_39_3 kX0 (by decide) lkf_X0_23 rfl ?_
  refine r_aload_n dX0_goOn_4 rfl ?_
  refine r_getf (v := .int (M.1 39 4)) dX0_goOn_5 fX_39_4 kX0 (by decide) lkf_X0_26 rfl ?_
  refine r_icmp_lt (tgt := 13) dX0_goOn_8 rfl (fun h1 => ?_) (fun h1 => ?_)
  · refine r_aload_n dX0_goOn_13 rfl ?_
    refine r_dup dX0_goOn_14 rfl ?_
    refine r_getf (v := .int (M.1 39 3)) dX0_goOn_15 fX_39_3 kX0 (by decide) lkf_X0_23 rfl ?_
    refine r_iconst (x := 1) dX0_goOn_18 rfl ?_
    refine r_iadd dX0_goOn_19 ?_
    refine r_putI dX0_goOn_20 fX_39_3 kX0 (by decide) rfl rfl lkf_X0_23 (fun _ => rfl) rfl rfl (fun M2 => ?_)
    refine r_aload_n dX0_goOn_23 rfl ?_
    refine r_getf (v := .ref (G.2.2.2 (35))) dX0_goOn_24 fX_39_0 kX0 (by decide) lkf_X0_15 rfl ?_
    refine r_aload_n dX0_goOn_27 rfl ?_
    refine r_getf (v := .ref (G.2.2.2 (40))) dX0_goOn_28 fX_39_1 kX0 (by decide) lkf_X0_11 rfl ?_
    refine r_aload_n dX0_goOn_31 rfl ?_
    refine c_I (inv_V (mi := mi_X0_goOn) (b := 39) (rest := [.ref (G.2.2.2 (40)), .ref (G.2.2.2 (35))]) (X0_slotOfNow_ok G M2) rfl (by decide) dX0_goOn_32 lkm_X0_33 cal_X0_slotOfNow cX_39 rfl rfl (Nat.le_of_ble_eq_true rfl) rfl) ?_
    refine c_OV rfl (inv_V (mi := mi_X0_goOn) (b := 35) (rest := []) (X9_loadFrom_ok_35 G aX_40p (X0_slotOfNow M2) M2) rfl (by decide) dX0_goOn_35 lkm_X0_37 cal_X9_loadFrom cX_35 rfl rfl (Nat.le_of_ble_eq_true rfl) rfl) (fun M3 => ?_)
    refine r_iconst (x := 1) dX0_goOn_38 rfl ?_
    exact r_iret (ty := .boolean) dX0_goOn_39 rfl rfl rfl
  refine r_iconst (x := 0) dX0_goOn_11 rfl ?_
  exact r_iret (ty := .boolean) dX0_goOn_12 rfl rfl rfl

theorem dX11_redo_0 : decode cX11_redo 0 = .ok (.aload_n 0, 1) := by decide +kernel
theorem dX11_redo_1 : decode cX11_redo 1 = .ok (.getfield 46, 3) := by decide +kernel
theorem dX11_redo_4 : decode cX11_redo 4 = .ok (.invokevirtual 195, 3) := by decide +kernel
theorem dX11_redo_7 : decode cX11_redo 7 = .ok (.ireturn, 1) := by decide +kernel
abbrev mi_X11_redo : MI := (zTX, RX11, yX11_redo, cX11_redo, 1, (some .boolean), 10)
theorem cal_X11_redo : zCalV mi_X11_redo 0 := ⟨⟨zTB_i4 237 (by decide +kernel), zTB_i4 235 (by decide +kernel), zTB_i4 236 (by decide +kernel), zTB_i1 1 (by decide +kernel)⟩, ⟨by decide, by decide, by decide +kernel⟩, by decide⟩
noncomputable def X11_redo (M : Mem) : Option (Bool × Mem) :=
  bp_ (X0_goOn M) fun b1 M2 =>
  some (b1, M2)
set_option maxRecDepth 100000 in
set_option maxHeartbeats 4000000 in
theorem X11_redo_ok (G : Gh) (M : Mem) : Mt G mi_X11_redo [.ref (G.2.2.2 (0))] M ((dO dZM) (X11_redo M)) := by
  refine Mt_of (lv := [some (.ref (G.2.2.2 (0)))]) (by decide) rfl (Nat.le_of_ble_eq_true rfl) rfl ?_
  unfold X11_redo
  refine r_aload_n dX11_redo_0 rfl ?_
  refine r_getf (v := .ref (G.2.2.2 (39))) dX11_redo_1 fX_0_4 kX11 (by decide) lkf_X11_46 rfl ?_
  refine c_OZM rfl (inv_V (mi := mi_X11_redo) (b := 39) (rest := []) (X0_goOn_ok G M) rfl (by decide) dX11_redo_4 lkm_X11_195 cal_X0_goOn cX_39 rfl rfl (Nat.le_of_ble_eq_true rfl) rfl) (fun b1 M2 => ?_)
  exact r_iret (ty := .boolean) dX11_redo_7 rfl (b2i_n _) rfl

theorem dX5_clearRows_0 : decode cX5_clearRows 0 = .ok (.iconst 0, 1) := by decide +kernel
theorem dX5_clearRows_1 : decode cX5_clearRows 1 = .ok (.istore_n 1, 1) := by decide +kernel
theorem dX5_clearRows_2 : decode cX5_clearRows 2 = .ok (.iload_n 1, 1) := by decide +kernel
theorem dX5_clearRows_3 : decode cX5_clearRows 3 = .ok (.bipush 15, 2) := by decide +kernel
theorem dX5_clearRows_5 : decode cX5_clearRows 5 = .ok (.if_icmp .ge 18, 3) := by decide +kernel
theorem dX5_clearRows_8 : decode cX5_clearRows 8 = .ok (.aload_n 0, 1) := by decide +kernel
theorem dX5_clearRows_9 : decode cX5_clearRows 9 = .ok (.getfield 9, 3) := by decide +kernel
theorem dX5_clearRows_12 : decode cX5_clearRows 12 = .ok (.iload_n 1, 1) := by decide +kernel
theorem dX5_clearRows_13 : decode cX5_clearRows 13 = .ok (.iconst 0, 1) := by decide +kernel
theorem dX5_clearRows_14 : decode cX5_clearRows 14 = .ok (.invokestatic 85, 3) := by decide +kernel
theorem dX5_clearRows_17 : decode cX5_clearRows 17 = .ok (.iinc 1 1, 3) := by decide +kernel
theorem dX5_clearRows_20 : decode cX5_clearRows 20 = .ok (.goto (-18), 3) := by decide +kernel
theorem dX5_clearRows_23 : decode cX5_clearRows 23 = .ok (.return_, 1) := by decide +kernel
abbrev mi_X5_clearRows : MI := (zTX, RX5, yX5_clearRows, cX5_clearRows, 2, none, 3)
theorem cal_X5_clearRows : zCalV mi_X5_clearRows 0 := ⟨⟨zTB_i5 13 (by decide +kernel), zTB_i5 12 (by decide +kernel), zTB_i0 27 (by decide +kernel), zTB_i1 10 (by decide +kernel)⟩, ⟨by decide, by decide, by decide +kernel⟩, by decide⟩
noncomputable def X5_clearRows_L1 : Nat → Int32 → Mem → Option (Mem)
  | 0, _, _ => none
  | n + 1, c1, M =>
    if 15 ≤ c1 then
      some M
    else
    lt_ (X11_put 46 c1 0 M) fun M2 =>
    X5_clearRows_L1 n (c1 + 1) M2
noncomputable def X5_clearRows (M : Mem) : Option (Mem) :=
  b1_ (α := Mem) (X5_clearRows_L1 zFU 0 M) fun M3 =>
  some M3
set_option maxRecDepth 100000 in
set_option maxHeartbeats 4000000 in
theorem X5_clearRows_L1_ok (G : Gh) {dn : Option (Mem) → Option (Option Value × Mem)} (hs : dn none = none) (hx : ∀ (M3 : Mem), Wr G mi_X5_clearRows dn 23 [none, none] [] M3 (some M3)) : ∀ (n : Nat) (c1 : Int32) (M : Mem), Wr G mi_X5_clearRows dn 2 [some (.ref (G.2.2.2 (41))), some (.int c1)] [] M (X5_clearRows_L1 n c1 M) := by
  intro n
  induction n with
  | zero => intro c1 M; exact r_none (by exact hs)
  | succ n ih =>
    intro c1 M
    rw [X5_clearRows_L1]
    refine r_iload_n dX5_clearRows_2 rfl ?_
    refine r_bipush (x := 15) dX5_clearRows_3 rfl ?_
    refine r_icmp_ge (tgt := 23) dX5_clearRows_5 rfl (fun h1 => ?_) (fun h1 => ?_)
    · exact r_lk (hx M) True.intro
    refine r_aload_n dX5_clearRows_8 rfl ?_
    refine r_getf (v := .ref (G.2.2.2 (46))) dX5_clearRows_9 fX_41_3 kX5 (by decide) lkf_X5_9 rfl ?_
    refine r_iload_n dX5_clearRows_12 rfl ?_
    refine r_iconst (x := 0) dX5_clearRows_13 rfl ?_
    refine c_V (inv_SN (mi := mi_X5_clearRows) (rest := []) (X11_put_ok G aX_46p c1 0 M) rfl (by decide) dX5_clearRows_14 lkm_X5_85 cal_X11_put rfl (Nat.le_of_ble_eq_true rfl) rfl) (fun M2 => ?_)
    refine r_iinc (y := c1 + 1) (lv' := [some (.ref (G.2.2.2 (41))), some (.int (c1 + 1))]) dX5_clearRows_17 rfl rfl (Nat.le_of_ble_eq_true rfl) rfl rfl ?_
    refine r_goto (tgt := 2) dX5_clearRows_20 rfl ?_
    exact r_lk (ih (c1 + 1) M2) (And.intro rfl (And.intro rfl True.intro))
set_option maxRecDepth 100000 in
set_option maxHeartbeats 4000000 in
theorem X5_clearRows_ok (G : Gh) (M : Mem) : Mt G mi_X5_clearRows [.ref (G.2.2.2 (41))] M ((dO dV) (X5_clearRows M)) := by
  refine Mt_of (lv := [some (.ref (G.2.2.2 (41)))]) (by decide) rfl (Nat.le_of_ble_eq_true rfl) rfl ?_
  refine r_le (lv' := [some (.ref (G.2.2.2 (41))), none]) (And.intro rfl True.intro) ?_
  unfold X5_clearRows
  refine r_iconst (x := 0) dX5_clearRows_0 rfl ?_
  refine r_istore_n (lv' := [some (.ref (G.2.2.2 (41))), some (.int 0)]) dX5_clearRows_1 (Nat.le_of_ble_eq_true rfl) rfl rfl ?_
  refine r_jB1 (j := 23) (lvj := fun M3 => [none, none]) (stj := fun M3 => []) (Mj := fun M3 => M3) (fun M3 => ?_) (fun hj23 => ?_)
  · exact r_vret dX5_clearRows_23 rfl rfl
  exact r_lk (X5_clearRows_L1_ok G rfl hj23 zFU 0 M) (And.intro rfl (And.intro rfl True.intro))

