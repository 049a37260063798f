theorem dX10_append_0 : decode cX10_append 0 = .ok (.bipush 24, 2) := by decide +kernel
theorem dX10_append_2 : decode cX10_append 2 = .ok (.istore_n 2, 1) := by decide +kernel
theorem dX10_append_3 : decode cX10_append 3 = .ok (.iload_n 2, 1) := by decide +kernel
theorem dX10_append_4 : decode cX10_append 4 = .ok (.ifCond .lt 51, 3) := by decide +kernel
theorem dX10_append_7 : decode cX10_append 7 = .ok (.aload_n 0, 1) := by decide +kernel
theorem dX10_append_8 : decode cX10_append 8 = .ok (.getfield 15, 3) := by decide +kernel
theorem dX10_append_11 : decode cX10_append 11 = .ok (.ifCond .lt 38, 3) := by decide +kernel
theorem dX10_append_14 : decode cX10_append 14 = .ok (.aload_n 0, 1) := by decide +kernel
theorem dX10_append_15 : decode cX10_append 15 = .ok (.getfield 15, 3) := by decide +kernel
theorem dX10_append_18 : decode cX10_append 18 = .ok (.aload_n 0, 1) := by decide +kernel
theorem dX10_append_19 : decode cX10_append 19 = .ok (.getfield 9, 3) := by decide +kernel
theorem dX10_append_22 : decode cX10_append 22 = .ok (.arraylength, 1) := by decide +kernel
theorem dX10_append_23 : decode cX10_append 23 = .ok (.if_icmp .ge 26, 3) := by decide +kernel
theorem dX10_append_26 : decode cX10_append 26 = .ok (.aload_n 0, 1) := by decide +kernel
theorem dX10_append_27 : decode cX10_append 27 = .ok (.getfield 9, 3) := by decide +kernel
theorem dX10_append_30 : decode cX10_append 30 = .ok (.aload_n 0, 1) := by decide +kernel
theorem dX10_append_31 : decode cX10_append 31 = .ok (.getfield 15, 3) := by decide +kernel
theorem dX10_append_34 : decode cX10_append 34 = .ok (.iload_n 1, 1) := by decide +kernel
theorem dX10_append_35 : decode cX10_append 35 = .ok (.iload_n 2, 1) := by decide +kernel
theorem dX10_append_36 : decode cX10_append 36 = .ok (.ishr, 1) := by decide +kernel
theorem dX10_append_37 : decode cX10_append 37 = .ok (.i2b, 1) := by decide +kernel
theorem dX10_append_38 : decode cX10_append 38 = .ok (.bastore, 1) := by decide +kernel
theorem dX10_append_39 : decode cX10_append 39 = .ok (.aload_n 0, 1) := by decide +kernel
theorem dX10_append_40 : decode cX10_append 40 = .ok (.dup, 1) := by decide +kernel
theorem dX10_append_41 : decode cX10_append 41 = .ok (.getfield 15, 3) := by decide +kernel
theorem dX10_append_44 : decode cX10_append 44 = .ok (.iconst 1, 1) := by decide +kernel
theorem dX10_append_45 : decode cX10_append 45 = .ok (.iadd, 1) := by decide +kernel
theorem dX10_append_46 : decode cX10_append 46 = .ok (.putfield 15, 3) := by decide +kernel
theorem dX10_append_49 : decode cX10_append 49 = .ok (.iinc 2 (-8), 3) := by decide +kernel
theorem dX10_append_52 : decode cX10_append 52 = .ok (.goto (-49), 3) := by decide +kernel
theorem dX10_append_55 : decode cX10_append 55 = .ok (.return_, 1) := by decide +kernel
abbrev mi_X10_append : MI := (zTX, RX10, yX10_append, cX10_append, 3, none, 2)
theorem cal_X10_append : zCalV mi_X10_append 1 := ⟨⟨zTB_i2 193 (by decide +kernel), zTB_i2 191 (by decide +kernel), zTB_i2 192 (by decide +kernel), zTB_i1 2 (by decide +kernel)⟩, ⟨by decide, by decide, by decide +kernel⟩, by decide⟩
noncomputable def X10_append_L1 (x1 : Int32) : Nat → Int32 → Mem → Option (Mem)
  | 0, _, _ => none
  | n + 1, c2, M =>
    if c2 < 0 then
      some M
    else
    l1_ (α := Mem) (
      if (M.1 1 1) < 0 then
        M
      else
      if (1600) ≤ (M.1 1 1) then
        M
      else
      lt_ (uI M 2 ((M.1 1 1).toNatClampNeg) ((x1 >>> (c2 &&& 31)).toInt8.toInt32)) fun M4 =>
      lt_ (uI M4 1 1 ((M4.1 1 1) + 1)) fun M5 =>
      M5) fun M6 =>
    X10_append_L1 x1 n (c2 + (-8)) M6
noncomputable def X10_append (x1 : Int32) (M : Mem) : Option (Mem) :=
  b1_ (α := Mem) (X10_append_L1 x1 zFU 24 M) fun M7 =>
  some M7
set_option maxRecDepth 100000 in
set_option maxHeartbeats 4000000 in
theorem X10_append_L1_ok (G : Gh) (x1 : Int32) {dn : Option (Mem) → Option (Option Value × Mem)} (hs : dn none = none) (hx : ∀ (M7 : Mem), Wr G mi_X10_append dn 55 [none, none, none] [] M7 (some M7)) : ∀ (n : Nat) (c2 : Int32) (M : Mem), Wr G mi_X10_append dn 3 [some (.ref (G.2.2.2 (1))), some (.int x1), some (.int c2)] [] M (X10_append_L1 x1 n c2 M) := by
  intro n
  induction n with
  | zero => intro c2 M; exact r_none (by exact hs)
  | succ n ih =>
    intro c2 M
    rw [X10_append_L1]
    refine r_iload_n dX10_append_3 rfl ?_
    refine r_if_lt (tgt := 55) dX10_append_4 rfl (fun h1 => ?_) (fun h1 => ?_)
    · exact r_lk (hx M) True.intro
    refine r_aload_n dX10_append_7 rfl ?_
    refine r_getf (v := .int (M.1 1 1)) dX10_append_8 fX_1_1 kX10 (by decide) lkf_X10_15 rfl ?_
    refine r_jL1 (j := 49) (lvj := fun M6 => [some (.ref (G.2.2.2 (1))), some (.int x1), some (.int c2)]) (stj := fun M6 => []) (Mj := fun M6 => M6) (fun M6 => ?_) (fun hj49 => ?_)
    · refine r_iinc (y := c2 + (-8)) (lv' := [some (.ref (G.2.2.2 (1))), some (.int x1), some (.int (c2 + (-8)))]) dX10_append_49 rfl rfl (Nat.le_of_ble_eq_true rfl) rfl rfl ?_
      refine r_goto (tgt := 3) dX10_append_52 rfl ?_
      exact r_lk (ih (c2 + (-8)) M6) (And.intro rfl (And.intro rfl (And.intro rfl True.intro)))
    refine r_if_lt (tgt := 49) dX10_append_11 rfl (fun h2 => ?_) (fun h2 => ?_)
    · exact r_lk (hj49 M) (And.intro rfl (And.intro rfl (And.intro rfl True.intro)))
    refine r_aload_n dX10_append_14 rfl ?_
    refine r_getf (v := .int (M.1 1 1)) dX10_append_15 fX_1_1 kX10 (by decide) lkf_X10_15 rfl ?_
    refine r_aload_n dX10_append_18 rfl ?_
    refine r_getf (v := .ref (G.2.2.2 (2))) dX10_append_19 fX_1_0 kX10 (by decide) lkf_X10_9 rfl ?_
    refine r_alen (v := 1600) dX10_append_22 aX_2 (by decide) rfl ?_
    refine r_icmp_ge (tgt := 49) dX10_append_23 rfl (fun h3 => ?_) (fun h3 => ?_)
    · exact r_lk (hj49 M) (And.intro rfl (And.intro rfl (And.intro rfl True.intro)))
    refine r_aload_n dX10_append_26 rfl ?_
    refine r_getf (v := .ref (G.2.2.2 (2))) dX10_append_27 fX_1_0 kX10 (by decide) lkf_X10_9 rfl ?_
    refine r_aload_n dX10_append_30 rfl ?_
    refine r_getf (v := .int (M.1 1 1)) dX10_append_31 fX_1_1 kX10 (by decide) lkf_X10_15 rfl ?_
    refine r_iload_n dX10_append_34 rfl ?_
    refine r_iload_n dX10_append_35 rfl ?_
    refine r_ishr dX10_append_36 ?_
    refine r_i2b dX10_append_37 ?_
    refine r_bast dX10_append_38 aX_2 (vin h2 h3 (by decide)) rfl (y := (x1 >>> (c2 &&& 31)).toInt8.toInt32) (zb2 _) (fun M4 => ?_)
    refine r_aload_n dX10_append_39 rfl ?_
    refine r_dup dX10_append_40 rfl ?_
    refine r_getf (v := .int (M4.1 1 1)) dX10_append_41 fX_1_1 kX10 (by decide) lkf_X10_15 rfl ?_
    refine r_iconst (x := 1) dX10_append_44 rfl ?_
    refine r_iadd dX10_append_45 ?_
    refine r_putI dX10_append_46 fX_1_1 kX10 (by decide) rfl rfl lkf_X10_15 (fun _ => rfl) rfl rfl (fun M5 => ?_)
    exact r_lk (hj49 M5) (And.intro rfl (And.intro rfl (And.intro rfl True.intro)))
set_option maxRecDepth 100000 in
set_option maxHeartbeats 4000000 in
theorem X10_append_ok (G : Gh) (x1 : Int32) (M : Mem) : Mt G mi_X10_append [.ref (G.2.2.2 (1)), .int x1] M ((dO dV) (X10_append x1 M)) := by
  refine Mt_of (lv := [some (.ref (G.2.2.2 (1))), some (.int x1)]) (by decide) rfl (Nat.le_of_ble_eq_true rfl) rfl ?_
  refine r_le (lv' := [some (.ref (G.2.2.2 (1))), some (.int x1), none]) (And.intro rfl (And.intro rfl True.intro)) ?_
  unfold X10_append
  refine r_bipush (x := 24) dX10_append_0 rfl ?_
  refine r_istore_n (lv' := [some (.ref (G.2.2.2 (1))), some (.int x1), some (.int 24)]) dX10_append_2 (Nat.le_of_ble_eq_true rfl) rfl rfl ?_
  refine r_jB1 (j := 55) (lvj := fun M7 => [none, none, none]) (stj := fun M7 => []) (Mj := fun M7 => M7) (fun M7 => ?_) (fun hj55 => ?_)
  · exact r_vret dX10_append_55 rfl rfl
  exact r_lk (X10_append_L1_ok G x1 rfl hj55 zFU 24 M) (And.intro rfl (And.intro rfl (And.intro rfl True.intro)))

theorem dX11_feed_0 : decode cX11_feed 0 = .ok (.aload_n 0, 1) := by decide +kernel
theorem dX11_feed_1 : decode cX11_feed 1 = .ok (.getfield 12, 3) := by decide +kernel
theorem dX11_feed_4 : decode cX11_feed 4 = .ok (.getfield 81, 3) := by decide +kernel
theorem dX11_feed_7 : decode cX11_feed 7 = .ok (.sipush 1580, 3) := by decide +kernel
theorem dX11_feed_10 : decode cX11_feed 10 = .ok (.if_icmp .le 5, 3) := by decide +kernel
theorem dX11_feed_13 : decode cX11_feed 13 = .ok (.iconst (-1), 1) := by decide +kernel
theorem dX11_feed_14 : decode cX11_feed 14 = .ok (.ireturn, 1) := by decide +kernel
theorem dX11_feed_15 : decode cX11_feed 15 = .ok (.aload_n 0, 1) := by decide +kernel
theorem dX11_feed_16 : decode cX11_feed 16 = .ok (.getfield 12, 3) := by decide +kernel
theorem dX11_feed_19 : decode cX11_feed 19 = .ok (.iload_n 1, 1) := by decide +kernel
theorem dX11_feed_20 : decode cX11_feed 20 = .ok (.invokevirtual 85, 3) := by decide +kernel
theorem dX11_feed_23 : decode cX11_feed 23 = .ok (.aload_n 0, 1) := by decide +kernel
theorem dX11_feed_24 : decode cX11_feed 24 = .ok (.getfield 12, 3) := by decide +kernel
theorem dX11_feed_27 : decode cX11_feed 27 = .ok (.iload_n 2, 1) := by decide +kernel
theorem dX11_feed_28 : decode cX11_feed 28 = .ok (.invokevirtual 85, 3) := by decide +kernel
theorem dX11_feed_31 : decode cX11_feed 31 = .ok (.aload_n 0, 1) := by decide +kernel
theorem dX11_feed_32 : decode cX11_feed 32 = .ok (.getfield 12, 3) := by decide +kernel
theorem dX11_feed_35 : decode cX11_feed 35 = .ok (.iload_n 3, 1) := by decide +kernel
theorem dX11_feed_36 : decode cX11_feed 36 = .ok (.invokevirtual 85, 3) := by decide +kernel
theorem dX11_feed_39 : decode cX11_feed 39 = .ok (.aload_n 0, 1) := by decide +kernel
theorem dX11_feed_40 : decode cX11_feed 40 = .ok (.getfield 12, 3) := by decide +kernel
theorem dX11_feed_43 : decode cX11_feed 43 = .ok (.iload 4, 2) := by decide +kernel
theorem dX11_feed_45 : decode cX11_feed 45 = .ok (.invokevirtual 85, 3) := by decide +kernel
theorem dX11_feed_48 : decode cX11_feed 48 = .ok (.aload_n 0, 1) := by decide +kernel
theorem dX11_feed_49 : decode cX11_feed 49 = .ok (.getfield 12, 3) := by decide +kernel
theorem dX11_feed_52 : decode cX11_feed 52 = .ok (.iload 5, 2) := by decide +kernel
theorem dX11_feed_54 : decode cX11_feed 54 = .ok (.invokevirtual 85, 3) := by decide +kernel
theorem dX11_feed_57 : decode cX11_feed 57 = .ok (.aload_n 0, 1) := by decide +kernel
theorem dX11_feed_58 : decode cX11_feed 58 = .ok (.getfield 12, 3) := by decide +kernel
theorem dX11_feed_61 : decode cX11_feed 61 = .ok (.getfield 81, 3) := by decide +kernel
theorem dX11_feed_64 : decode cX11_feed 64 = .ok (.ireturn, 1) := by decide +kernel
abbrev mi_X11_feed : MI := (zTX, RX11, yX11_feed, cX11_feed, 6, (some .int), 3)
theorem cal_X11_feed : zCalV mi_X11_feed 5 := ⟨⟨zTB_i2 189 (by decide +kernel), zTB_i2 187 (by decide +kernel), zTB_i2 188 (by decide +kernel), zTB_i1 1 (by decide +kernel)⟩, ⟨by decide, by decide, by decide +kernel⟩, by decide⟩
noncomputable def X11_feed (x1 : Int32) (x2 : Int32) (x3 : Int32) (x4 : Int32) (x5 : Int32) (M : Mem) : Option (Int32 × Mem) :=
  if (M.1 1 1) ≤ 1580 then
    bo_ (X10_append x1 M) fun M2 =>
    bo_ (X10_append x2 M2) fun M3 =>
    bo_ (X10_append x3 M3) fun M4 =>
    bo_ (X10_append x4 M4) fun M5 =>
    bo_ (X10_append x5 M5) fun M6 =>
    some (M6.1 1 1, M6)
  else
  some ((-1), M)
set_option maxRecDepth 100000 in
set_option maxHeartbeats 4000000 in
theorem X11_feed_ok (G : Gh) (x1 : Int32) (x2 : Int32) (x3 : Int32) (x4 : Int32) (x5 : Int32) (M : Mem) : Mt G mi_X11_feed [.ref (G.2.2.2 (0)), .int x1, .int x2, .int x3, .int x4, .int x5] M ((dO dIM) (X11_feed x1 x2 x3 x4 x5 M)) := by
  refine Mt_of (lv := [some (.ref (G.2.2.2 (0))), some (.int x1), some (.int x2), some (.int x3), some (.int x4), some (.int x5)]) (by decide) rfl (Nat.le_of_ble_eq_true rfl) rfl ?_
  unfold X11_feed
  refine r_aload_n dX11_feed_0 rfl ?_
  refine r_getf (v := .ref (G.2.2.2 (1))) dX11_feed_1 fX_0_0 kX11 (by decide) lkf_X11_12 rfl ?_
  refine r_getf (v := .int (M.1 1 1)) dX11_feed_4 fX_1_1 kX10 (by decide) lkf_X11_81 rfl ?_
  refine r_sipush (x := 1580) dX11_feed_7 rfl ?_
  refine r_icmp_le (tgt := 15) dX11_feed_10 rfl (fun h1 => ?_) (fun h1 => ?_)
  · refine r_aload_n dX11_feed_15 rfl ?_
    refine r_getf (v := .ref (G.2.2.2 (1))) dX11_feed_16 fX_0_0 kX11 (by decide) lkf_X11_12 rfl ?_
    refine r_iload_n dX11_feed_19 rfl ?_
    refine c_OV rfl (inv_V (mi := mi_X11_feed) (b := 1) (rest := []) (X10_append_ok G x1 M) rfl (by decide) dX11_feed_20 lkm_X11_85 cal_X10_append cX_1 rfl rfl (Nat.le_of_ble_eq_true rfl) rfl) (fun M2 => ?_)
    refine r_aload_n dX11_feed_23 rfl ?_
    refine r_getf (v := .ref (G.2.2.2 (1))) dX11_feed_24 fX_0_0 kX11 (by decide) lkf_X11_12 rfl ?_
    refine r_iload_n dX11_feed_27 rfl ?_
    refine c_OV rfl (inv_V (mi := mi_X11_feed) (b := 1) (rest := []) (X10_append_ok G x2 M2) rfl (by decide) dX11_feed_28 lkm_X11_85 cal_X10_append cX_1 rfl rfl (Nat.le_of_ble_eq_true rfl) rfl) (fun M3 => ?_)
    refine r_aload_n dX11_feed_31 rfl ?_
    refine r_getf (v := .ref (G.2.2.2 (1))) dX11_feed_32 fX_0_0 kX11 (by decide) lkf_X11_12 rfl ?_
    refine r_iload_n dX11_feed_35 rfl ?_
    refine c_OV rfl (inv_V (mi := mi_X11_feed) (b := 1) (rest := []) (X10_append_ok G x3 M3) rfl (by decide) dX11_feed_36 lkm_X11_85 cal_X10_append cX_1 rfl rfl (Nat.le_of_ble_eq_true rfl) rfl) (fun M4 => ?_)
    refine r_aload_n dX11_feed_39 rfl ?_
    refine r_getf (v := .ref (G.2.2.2 (1))) dX11_feed_40 fX_0_0 kX11 (by decide) lkf_X11_12 rfl ?_
    refine r_iload dX11_feed_43 rfl ?_
    refine c_OV rfl (inv_V (mi := mi_X11_feed) (b := 1) (rest := []) (X10_append_ok G x4 M4) rfl (by decide) dX11_feed_45 lkm_X11_85 cal_X10_append cX_1 rfl rfl (Nat.le_of_ble_eq_true rfl) rfl) (fun M5 => ?_)
    refine r_aload_n dX11_feed_48 rfl ?_
    refine r_getf (v := .ref (G.2.2.2 (1))) dX11_feed_49 fX_0_0 kX11 (by decide) lkf_X11_12 rfl ?_
    refine r_iload dX11_feed_52 rfl ?_
    refine c_OV rfl (inv_V (mi := mi_X11_feed) (b := 1) (rest := []) (X10_append_ok G x5 M5) rfl (by decide) dX11_feed_54 lkm_X11_85 cal_X10_append cX_1 rfl rfl (Nat.le_of_ble_eq_true rfl) rfl) (fun M6 => ?_)
    refine r_aload_n dX11_feed_57 rfl ?_
    refine r_getf (v := .ref (G.2.2.2 (1))) dX11_feed_58 fX_0_0 kX11 (by decide) lkf_X11_12 rfl ?_
    refine r_getf (v := .int (M6.1 1 1)) dX11_feed_61 fX_1_1 kX10 (by decide) lkf_X11_81 rfl ?_
    exact r_iret (ty := .int) dX11_feed_64 rfl rfl rfl
  refine r_iconst (x := (-1)) dX11_feed_13 rfl ?_
  exact r_iret (ty := .int) dX11_feed_14 rfl rfl rfl

theorem dX11_end_0 : decode cX11_end 0 = .ok (.iload_n 1, 1) := by decide +kernel
theorem dX11_end_1 : decode cX11_end 1 = .ok (.ifCond .lt 14, 3) := by decide +kernel
theorem dX11_end_4 : decode cX11_end 4 = .ok (.iload_n 1, 1) := by decide +kernel
theorem dX11_end_5 : decode cX11_end 5 = .ok (.aload_n 0, 1) := by decide +kernel
theorem dX11_end_6 : decode cX11_end 6 = .ok (.getfield 12, 3) := by decide +kernel
theorem dX11_end_9 : decode cX11_end 9 = .ok (.getfield 81, 3) := by decide +kernel
theorem dX11_end_12 : decode cX11_end 12 = .ok (.if_icmp .le 5, 3) := by decide +kernel
theorem dX11_end_15 : decode cX11_end 15 = .ok (.iconst (-1), 1) := by decide +kernel
theorem dX11_end_16 : decode cX11_end 16 = .ok (.ireturn, 1) := by decide +kernel
theorem dX11_end_17 : decode cX11_end 17 = .ok (.aload_n 0, 1) := by decide +kernel
theorem dX11_end_18 : decode cX11_end 18 = .ok (.getfield 12, 3) := by decide +kernel
theorem dX11_end_21 : decode cX11_end 21 = .ok (.iload_n 1, 1) := by decide +kernel
theorem dX11_end_22 : decode cX11_end 22 = .ok (.putfield 81, 3) := by decide +kernel
theorem dX11_end_25 : decode cX11_end 25 = .ok (.iload_n 1, 1) := by decide +kernel
theorem dX11_end_26 : decode cX11_end 26 = .ok (.ireturn, 1) := by decide +kernel
abbrev mi_X11_end : MI := (zTX, RX11, yX11_end, cX11_end, 2, (some .int), 2)
theorem cal_X11_end : zCalV mi_X11_end 1 := ⟨⟨zTB_i2 197 (by decide +kernel), zTB_i2 195 (by decide +kernel), zTB_i2 196 (by decide +kernel), zTB_i1 1 (by decide +kernel)⟩, ⟨by decide, by decide, by decide +kernel⟩, by decide⟩
noncomputable def X11_end (x1 : Int32) (M : Mem) : Int32 × Mem :=
  if x1 < 0 then
    ((-1), M)
  else
  if x1 ≤ (M.1 1 1) then
    lt_ (uI M 1 1 x1) fun M3 =>
    (x1, M3)
  else
  ((-1), M)
set_option maxRecDepth 100000 in
set_option maxHeartbeats 4000000 in
theorem X11_end_ok (G : Gh) (x1 : Int32) (M : Mem) : Mt G mi_X11_end [.ref (G.2.2.2 (0)), .int x1] M (dIM (X11_end x1 M)) := by
  refine Mt_of (lv := [some (.ref (G.2.2.2 (0))), some (.int x1)]) (by decide) rfl (Nat.le_of_ble_eq_true rfl) rfl ?_
  unfold X11_end
  refine r_iload_n dX11_end_0 rfl ?_
  refine r_if_lt (tgt := 15) dX11_end_1 rfl (fun h1 => ?_) (fun h1 => ?_)
  · refine r_iconst (x := (-1)) dX11_end_15 rfl ?_
    exact r_iret (ty := .int) dX11_end_16 rfl rfl rfl
  refine r_iload_n dX11_end_4 rfl ?_
  refine r_aload_n dX11_end_5 rfl ?_
  refine r_getf (v := .ref (G.2.2.2 (1))) dX11_end_6 fX_0_0 kX11 (by decide) lkf_X11_12 rfl ?_
  refine r_getf (v := .int (M.1 1 1)) dX11_end_9 fX_1_1 kX10 (by decide) lkf_X11_81 rfl ?_
  refine r_icmp_le (tgt := 17) dX11_end_12 rfl (fun h2 => ?_) (fun h2 => ?_)
  · refine r_aload_n dX11_end_17 rfl ?_
    refine r_getf (v := .ref (G.2.2.2 (1))) dX11_end_18 fX_0_0 kX11 (by decide) lkf_X11_12 rfl ?_
    refine r_iload_n dX11_end_21 rfl ?_
    refine r_putI dX11_end_22 fX_1_1 kX10 (by decide) rfl rfl lkf_X11_81 (fun _ => rfl) rfl rfl (fun M3 => ?_)
    refine r_iload_n dX11_end_25 rfl ?_
    exact r_iret (ty := .int) dX11_end_26 rfl rfl rfl
  refine r_iconst (x := (-1)) dX11_end_15 rfl ?_
  exact r_iret (ty := .int) dX11_end_16 rfl rfl rfl

theorem dX11_put_0 : decode cX11_put 0 = .ok (.iload_n 1, 1) := by decide +kernel
theorem dX11_put_1 : decode cX11_put 1 = .ok (.ifCond .lt 13, 3) := by decide +kernel
theorem dX11_put_4 : decode cX11_put 4 = .ok (.iload_n 1, 1) := by decide +kernel
theorem dX11_put_5 : decode cX11_put 5 = .ok (.aload_n 0, 1) := by decide +kernel
theorem dX11_put_6 : decode cX11_put 6 = .ok (.arraylength, 1) := by decide +kernel
theorem dX11_put_7 : decode cX11_put 7 = .ok (.if_icmp .ge 7, 3) := by decide +kernel
theorem dX11_put_10 : decode cX11_put 10 = .ok (.aload_n 0, 1) := by decide +kernel
theorem dX11_put_11 : decode cX11_put 11 = .ok (.iload_n 1, 1) := by decide +kernel
theorem dX11_put_12 : decode cX11_put 12 = .ok (.iload_n 2, 1) := by decide +kernel
theorem dX11_put_13 : decode cX11_put 13 = .ok (.iastore, 1) := by decide +kernel
theorem dX11_put_14 : decode cX11_put 14 = .ok (.return_, 1) := by decide +kernel
abbrev mi_X11_put : MI := (zTX, RX11, yX11_put, cX11_put, 3, none, 2)
theorem cal_X11_put : zCalS mi_X11_put 3 := ⟨⟨zTB_i2 212 (by decide +kernel), zTB_i2 211 (by decide +kernel), zTB_i1 1 (by decide +kernel)⟩, ⟨by decide, by decide, by decide +kernel⟩, by decide⟩
noncomputable def X11_put (a0 : Nat) (x1 : Int32) (x2 : Int32) (M : Mem) : Mem :=
  if x1 < 0 then
    M
  else
  if (nI (zlen zTX a0)) ≤ x1 then
    M
  else
  lt_ (uI M a0 x1.toNatClampNeg x2) fun M3 =>
  M3
set_option maxRecDepth 100000 in
set_option maxHeartbeats 4000000 in
theorem X11_put_ok (G : Gh) {a0 : Nat} (ha0 : zar zTX a0 = some (0, zlen zTX a0)) (x1 : Int32) (x2 : Int32) (M : Mem) : Mt G mi_X11_put [.ref (G.2.2.2 (a0)), .int x1, .int x2] M (dV (X11_put a0 x1 x2 M)) := by
  refine Mt_of (lv := [some (.ref (G.2.2.2 (a0))), some (.int x1), some (.int x2)]) (by decide) rfl (Nat.le_of_ble_eq_true rfl) rfl ?_
  unfold X11_put
  refine r_iload_n dX11_put_0 rfl ?_
  refine r_if_lt (tgt := 14) dX11_put_1 rfl (fun h1 => ?_) (fun h1 => ?_)
  · exact r_vret dX11_put_14 rfl rfl
  refine r_iload_n dX11_put_4 rfl ?_
  refine r_aload_n dX11_put_5 rfl ?_
  refine r_alen (v := nI (zlen zTX a0)) dX11_put_6 ha0 (by decide) rfl ?_
  refine r_icmp_ge (tgt := 14) dX11_put_7 rfl (fun h2 => ?_) (fun h2 => ?_)
  · exact r_vret dX11_put_14 rfl rfl
  refine r_aload_n dX11_put_10 rfl ?_
  refine r_iload_n dX11_put_11 rfl ?_
  refine r_iload_n dX11_put_12 rfl ?_
  refine r_iast dX11_put_13 ha0 (vin h1 h2 (zlen_ltX _)) rfl (fun M3 => ?_)
  exact r_vret dX11_put_14 rfl rfl

theorem dX1_clear_0 : decode cX1_clear 0 = .ok (.aload_n 0, 1) := by decide +kernel
theorem dX1_clear_1 : decode cX1_clear 1 = .ok (.iconst 0, 1) := by decide +kernel
theorem dX1_clear_2 : decode cX1_clear 2 = .ok (.putfield 16, 3) := by decide +kernel
theorem dX1_clear_5 : decode cX1_clear 5 = .ok (.aload_n 0, 1) := by decide +kernel
theorem dX1_clear_6 : decode cX1_clear 6 = .ok (.iconst 0, 1) := by decide +kernel
theorem dX1_clear_7 : decode cX1_clear 7 = .ok (.putfield 20, 3) := by decide +kernel
theorem dX1_clear_10 : decode cX1_clear 10 = .ok (.return_, 1) := by decide +kernel
abbrev mi_X1_clear : MI := (zTX, RX1, yX1_clear, cX1_clear, 1, none, 2)
theorem cal_X1_clear : zCalV mi_X1_clear 0 := ⟨⟨zTB_i2 216 (by decide +kernel), zTB_i2 214 (by decide +kernel), zTB_i2 215 (by decide +kernel), zTB_i1 5 (by decide +kernel)⟩, ⟨by decide, by decide, by decide +kernel⟩, by decide⟩
noncomputable def X1_clear (o0 : Nat) (M : Mem) : Mem :=
  lt_ (uI M o0 2 0) fun M1 =>
  lt_ (uI M1 o0 3 0) fun M2 =>
  M2
set_option maxRecDepth 100000 in
set_option maxHeartbeats 4000000 in
theorem X1_clear_ok_13 (G : Gh) (M : Mem) : Mt G mi_X1_clear [.ref (G.2.2.2 (13))] M (dV (X1_clear 13 M)) := by
  refine Mt_of (lv := [some (.ref (G.2.2.2 (13)))]) (by decide) rfl (Nat.le_of_ble_eq_true rfl) rfl ?_
  unfold X1_clear
  refine r_aload_n dX1_clear_0 rfl ?_
  refine r_iconst (x := 0) dX1_clear_1 rfl ?_
  refine r_putI dX1_clear_2 fX_13_2 kX1 (by decide) rfl rfl lkf_X1_16 (fun _ => rfl) rfl rfl (fun M1 => ?_)
  refine r_aload_n dX1_clear_5 rfl ?_
  refine r_iconst (x := 0) dX1_clear_6 rfl ?_
  refine r_putI dX1_clear_7 fX_13_3 kX1 (by decide) rfl rfl lkf_X1_20 (fun _ => rfl) rfl rfl (fun M2 => ?_)
  exact r_vret dX1_clear_10 rfl rfl
set_option maxRecDepth 100000 in
set_option maxHeartbeats 4000000 in
theorem X1_clear_ok_32 (G : Gh) (M : Mem) : Mt G mi_X1_clear [.ref (G.2.2.2 (32))] M (dV (X1_clear 32 M)) := by
  refine Mt_of (lv := [some (.ref (G.2.2.2 (32)))]) (by decide) rfl (Nat.le_of_ble_eq_true rfl) rfl ?_
  unfold X1_clear
  refine r_aload_n dX1_clear_0 rfl ?_
  refine r_iconst (x := 0) dX1_clear_1 rfl ?_
  refine r_putI dX1_clear_2 fX_32_2 kX1 (by decide) rfl rfl lkf_X1_16 (fun _ => rfl) rfl rfl (fun M1 => ?_)
  refine r_aload_n dX1_clear_5 rfl ?_
  refine r_iconst (x := 0) dX1_clear_6 rfl ?_
  refine r_putI dX1_clear_7 fX_32_3 kX1 (by decide) rfl rfl lkf_X1_20 (fun _ => rfl) rfl rfl (fun M2 => ?_)
  exact r_vret dX1_clear_10 rfl rfl

theorem dX3_clear_0 : decode cX3_clear 0 = .ok (.aload_n 0, 1) := by decide +kernel
theorem dX3_clear_1 : decode cX3_clear 1 = .ok (.iconst 0, 1) := by decide +kernel
theorem dX3_clear_2 : decode cX3_clear 2 = .ok (.putfield 47, 3) := by decide +kernel
theorem dX3_clear_5 : decode cX3_clear 5 = .ok (.aload_n 0, 1) := by decide +kernel
theorem dX3_clear_6 : decode cX3_clear 6 = .ok (.iconst 0, 1) := by decide +kernel
theorem dX3_clear_7 : decode cX3_clear 7 = .ok (.putfield 50, 3) := by decide +kernel
theorem dX3_clear_10 : decode cX3_clear 10 = .ok (.aload_n 0, 1) := by decide +kernel
theorem dX3_clear_11 : decode cX3_clear 11 = .ok (.iconst 0, 1) := by decide +kernel
theorem dX3_clear_12 : decode cX3_clear 12 = .ok (.putfield 53, 3) := by decide +kernel
theorem dX3_clear_15 : decode cX3_clear 15 = .ok (.aload_n 0, 1) := by decide +kernel
theorem dX3_clear_16 : decode cX3_clear 16 = .ok (.iconst 0, 1) := by decide +kernel
theorem dX3_clear_17 : decode cX3_clear 17 = .ok (.putfield 56, 3) := by decide +kernel
theorem dX3_clear_20 : decode cX3_clear 20 = .ok (.aload_n 0, 1) := by decide +kernel
theorem dX3_clear_21 : decode cX3_clear 21 = .ok (.bipush 6, 2) := by decide +kernel
theorem dX3_clear_23 : decode cX3_clear 23 = .ok (.putfield 43, 3) := by decide +kernel
theorem dX3_clear_26 : decode cX3_clear 26 = .ok (.aload_n 0, 1) := by decide +kernel
theorem dX3_clear_27 : decode cX3_clear 27 = .ok (.iconst 0, 1) := by decide +kernel
theorem dX3_clear_28 : decode cX3_clear 28 = .ok (.putfield 59, 3) := by decide +kernel
theorem dX3_clear_31 : decode cX3_clear 31 = .ok (.iconst 0, 1) := by decide +kernel
theorem dX3_clear_32 : decode cX3_clear 32 = .ok (.istore_n 1, 1) := by decide +kernel
theorem dX3_clear_33 : decode cX3_clear 33 = .ok (.iload_n 1, 1) := by decide +kernel
theorem dX3_clear_34 : decode cX3_clear 34 = .ok (.iconst 5, 1) := by decide +kernel
theorem dX3_clear_35 : decode cX3_clear 35 = .ok (.if_icmp .ge 28, 3) := by decide +kernel
theorem dX3_clear_38 : decode cX3_clear 38 = .ok (.aload_n 0, 1) := by decide +kernel
theorem dX3_clear_39 : decode cX3_clear 39 = .ok (.getfield 15, 3) := by decide +kernel
theorem dX3_clear_42 : decode cX3_clear 42 = .ok (.iload_n 1, 1) := by decide +kernel
theorem dX3_clear_43 : decode cX3_clear 43 = .ok (.iconst 0, 1) := by decide +kernel
theorem dX3_clear_44 : decode cX3_clear 44 = .ok (.invokestatic 62, 3) := by decide +kernel
theorem dX3_clear_47 : decode cX3_clear 47 = .ok (.aload_n 0, 1) := by decide +kernel
theorem dX3_clear_48 : decode cX3_clear 48 = .ok (.getfield 18, 3) := by decide +kernel
theorem dX3_clear_51 : decode cX3_clear 51 = .ok (.iload_n 1, 1) := by decide +kernel
theorem dX3_clear_52 : decode cX3_clear 52 = .ok (.bipush 10, 2) := by decide +kernel
theorem dX3_clear_54 : decode cX3_clear 54 = .ok (.invokestatic 62, 3) := by decide +kernel
theorem dX3_clear_57 : decode cX3_clear 57 = .ok (.iinc 1 1, 3) := by decide +kernel
theorem dX3_clear_60 : decode cX3_clear 60 = .ok (.goto (-27), 3) := by decide +kernel
theorem dX3_clear_63 : decode cX3_clear 63 = .ok (.iconst 0, 1) := by decide +kernel
theorem dX3_clear_64 : decode cX3_clear 64 = .ok (.istore_n 1, 1) := by decide +kernel
theorem dX3_clear_65 : decode cX3_clear 65 = .ok (.iload_n 1, 1) := by decide +kernel
theorem dX3_clear_66 : decode cX3_clear 66 = .ok (.bipush 15, 2) := by decide +kernel
theorem dX3_clear_68 : decode cX3_clear 68 = .ok (.if_icmp .ge 27, 3) := by decide +kernel
theorem dX3_clear_71 : decode cX3_clear 71 = .ok (.aload_n 0, 1) := by decide +kernel
theorem dX3_clear_72 : decode cX3_clear 72 = .ok (.getfield 21, 3) := by decide +kernel
theorem dX3_clear_75 : decode cX3_clear 75 = .ok (.iload_n 1, 1) := by decide +kernel
theorem dX3_clear_76 : decode cX3_clear 76 = .ok (.iconst 0, 1) := by decide +kernel
theorem dX3_clear_77 : decode cX3_clear 77 = .ok (.invokestatic 62, 3) := by decide +kernel
theorem dX3_clear_80 : decode cX3_clear 80 = .ok (.aload_n 0, 1) := by decide +kernel
theorem dX3_clear_81 : decode cX3_clear 81 = .ok (.getfield 24, 3) := by decide +kernel
theorem dX3_clear_84 : decode cX3_clear 84 = .ok (.iload_n 1, 1) := by decide +kernel
theorem dX3_clear_85 : decode cX3_clear 85 = .ok (.iconst 0, 1) := by decide +kernel
theorem dX3_clear_86 : decode cX3_clear 86 = .ok (.invokestatic 62, 3) := by decide +kernel
theorem dX3_clear_89 : decode cX3_clear 89 = .ok (.iinc 1 1, 3) := by decide +kernel
theorem dX3_clear_92 : decode cX3_clear 92 = .ok (.goto (-27), 3) := by decide +kernel
theorem dX3_clear_95 : decode cX3_clear 95 = .ok (.iconst 0, 1) := by decide +kernel
theorem dX3_clear_96 : decode cX3_clear 96 = .ok (.istore_n 1, 1) := by decide +kernel
theorem dX3_clear_97 : decode cX3_clear 97 = .ok (.iload_n 1, 1) := by decide +kernel
theorem dX3_clear_98 : decode cX3_clear 98 = .ok (.bipush 9, 2) := by decide +kernel
theorem dX3_clear_100 : decode cX3_clear 100 = .ok (.if_icmp .ge 27, 3) := by decide +kernel
theorem dX3_clear_103 : decode cX3_clear 103 = .ok (.aload_n 0, 1) := by decide +kernel
theorem dX3_clear_104 : decode cX3_clear 104 = .ok (.getfield 27, 3) := by decide +kernel
theorem dX3_clear_107 : decode cX3_clear 107 = .ok (.iload_n 1, 1) := by decide +kernel
theorem dX3_clear_108 : decode cX3_clear 108 = .ok (.iconst 0, 1) := by decide +kernel
theorem dX3_clear_109 : decode cX3_clear 109 = .ok (.invokestatic 62, 3) := by decide +kernel
theorem dX3_clear_112 : decode cX3_clear 112 = .ok (.aload_n 0, 1) := by decide +kernel
theorem dX3_clear_113 : decode cX3_clear 113 = .ok (.getfield 30, 3) := by decide +kernel
theorem dX3_clear_116 : decode cX3_clear 116 = .ok (.iload_n 1, 1) := by decide +kernel
theorem dX3_clear_117 : decode cX3_clear 117 = .ok (.iconst 0, 1) := by decide +kernel
theorem dX3_clear_118 : decode cX3_clear 118 = .ok (.invokestatic 62, 3) := by decide +kernel
theorem dX3_clear_121 : decode cX3_clear 121 = .ok (.iinc 1 1, 3) := by decide +kernel
theorem dX3_clear_124 : decode cX3_clear 124 = .ok (.goto (-27), 3) := by decide +kernel
theorem dX3_clear_127 : decode cX3_clear 127 = .ok (.aload_n 0, 1) := by decide +kernel
theorem dX3_clear_128 : decode cX3_clear 128 = .ok (.getfield 39, 3) := by decide +kernel
theorem dX3_clear_131 : decode cX3_clear 131 = .ok (.invokevirtual 66, 3) := by decide +kernel
theorem dX3_clear_134 : decode cX3_clear 134 = .ok (.return_, 1) := by decide +kernel
abbrev mi_X3_clear : MI := (zTX, RX3, yX3_clear, cX3_clear, 2, none, 3)
theorem cal_X3_clear : zCalV mi_X3_clear 0 := ⟨⟨zTB_i2 209 (by decide +kernel), zTB_i2 207 (by decide +kernel), zTB_i2 208 (by decide +kernel), zTB_i1 4 (by decide +kernel)⟩, ⟨by decide, by decide, by decide +kernel⟩, by decide⟩
noncomputable def X3_clear_L3 (o0 : Nat) : Nat → Int32 → Mem → Option (Mem)
  | 0, _, _ => none
  | n + 1, c1, M =>
    if 9 ≤ c1 then
      some M
    else
    lt_ (X11_put (o0 + 6) c1 0 M) fun M16 =>
    lt_ (X11_put (o0 + 7) c1 0 M16) fun M17 =>
    X3_clear_L3 o0 n (c1 + 1) M17
noncomputable def X3_clear_L2 (o0 : Nat) : Nat → Int32 → Mem → Option (Mem)
  | 0, _, _ => none
  | n + 1, c1, M =>
    if 15 ≤ c1 then
      some M
    else
    lt_ (X11_put (o0 + 4) c1 0 M) fun M12 =>
    lt_ (X11_put (o0 + 5) c1 0 M12) fun M13 =>
    X3_clear_L2 o0 n (c1 + 1) M13
noncomputable def X3_clear_L1 (o0 : Nat) : Nat → Int32 → Mem → Option (Mem)
  | 0, _, _ => none
  | n + 1, c1, M =>
    if 5 ≤ c1 then
      some M
    else
    lt_ (X11_put (o0 + 2) c1 0 M) fun M8 =>
    lt_ (X11_put (o0 + 3) c1 10 M8) fun M9 =>
    X3_clear_L1 o0 n (c1 + 1) M9
noncomputable def X3_clear (o0 : Nat) (M : Mem) : Option (Mem) :=
  lt_ (uI M o0 0 0) fun M1 =>
  lt_ (uI M1 o0 1 0) fun M2 =>
  lt_ (uI M2 o0 2 0) fun M3 =>
  lt_ (uI M3 o0 3 0) fun M4 =>
  lt_ (uI M4 o0 4 6) fun M5 =>
  lt_ (uI M5 o0 5 0) fun M6 =>
  b1_ (α := Mem) (X3_clear_L1 o0 zFU 0 M6) fun M10 =>
  b1_ (α := Mem) (X3_clear_L2 o0 zFU 0 M10) fun M14 =>
  b1_ (α := Mem) (X3_clear_L3 o0 zFU 0 M14) fun M18 =>
  lt_ (X1_clear (o0 + 9) M18) fun M19 =>
  some M19
set_option maxRecDepth 100000 in
set_option maxHeartbeats 4000000 in
theorem X3_clear_L3_ok_4 (G : Gh) {dn : Option (Mem) → Option (Option Value × Mem)} (hs : dn none = none) (hx : ∀ (M18 : Mem), Wr G mi_X3_clear dn 127 [some (.ref (G.2.2.2 (4))), none] [] M18 (some M18)) : ∀ (n : Nat) (c1 : Int32) (M : Mem), Wr G mi_X3_clear dn 97 [some (.ref (G.2.2.2 (4))), some (.int c1)] [] M (X3_clear_L3 4 n c1 M) := by
  intro n
  induction n with
  | zero => intro c1 M; exact r_none (by exact hs)
  | succ n ih =>
    intro c1 M
    rw [X3_clear_L3]
    refine r_iload_n dX3_clear_97 rfl ?_
    refine r_bipush (x := 9) dX3_clear_98 rfl ?_
    refine r_icmp_ge (tgt := 127) dX3_clear_100 rfl (fun h15 => ?_) (fun h15 => ?_)
    · exact r_lk (hx M) (And.intro rfl True.intro)
    refine r_aload_n dX3_clear_103 rfl ?_
    refine r_getf (v := .ref (G.2.2.2 (4 + 6))) dX3_clear_104 fX_4_11 kX3 (by decide) lkf_X3_27 rfl ?_
    refine r_iload_n dX3_clear_107 rfl ?_
    refine r_iconst (x := 0) dX3_clear_108 rfl ?_
    refine c_V (inv_SN (mi := mi_X3_clear) (rest := []) (X11_put_ok G aX_10p c1 0 M) rfl (by decide) dX3_clear_109 lkm_X3_62 cal_X11_put rfl (Nat.le_of_ble_eq_true rfl) rfl) (fun M16 => ?_)
    refine r_aload_n dX3_clear_112 rfl ?_
    refine r_getf (v := .ref (G.2.2.2 (4 + 7))) dX3_clear_113 fX_4_12 kX3 (by decide) lkf_X3_30 rfl ?_
    refine r_iload_n dX3_clear_116 rfl ?_
    refine r_iconst (x := 0) dX3_clear_117 rfl ?_
    refine c_V (inv_SN (mi := mi_X3_clear) (rest := []) (X11_put_ok G aX_11p c1 0 M16) rfl (by decide) dX3_clear_118 lkm_X3_62 cal_X11_put rfl (Nat.le_of_ble_eq_true rfl) rfl) (fun M17 => ?_)
    refine r_iinc (y := c1 + 1) (lv' := [some (.ref (G.2.2.2 (4))), some (.int (c1 + 1))]) dX3_clear_121 rfl rfl (Nat.le_of_ble_eq_true rfl) rfl rfl ?_
    refine r_goto (tgt := 97) dX3_clear_124 rfl ?_
    exact r_lk (ih (c1 + 1) M17) (And.intro rfl (And.intro rfl True.intro))
set_option maxRecDepth 100000 in
set_option maxHeartbeats 4000000 in
theorem X3_clear_L2_ok_4 (G : Gh) {dn : Option (Mem) → Option (Option Value × Mem)} (hs : dn none = none) (hx : ∀ (M14 : Mem), Wr G mi_X3_clear dn 95 [some (.ref (G.2.2.2 (4))), none] [] M14 (some M14)) : ∀ (n : Nat) (c1 : Int32) (M : Mem), Wr G mi_X3_clear dn 65 [some (.ref (G.2.2.2 (4))), some (.int c1)] [] M (X3_clear_L2 4 n c1 M) := by
  intro n
  induction n with
  | zero => intro c1 M; exact r_none (by exact hs)
  | succ n ih =>
    intro c1 M
    rw [X3_clear_L2]
    refine r_iload_n dX3_clear_65 rfl ?_
    refine r_bipush (x := 15) dX3_clear_66 rfl ?_
    refine r_icmp_ge (tgt := 95) dX3_clear_68 rfl (fun h11 => ?_) (fun h11 => ?_)
    · exact r_lk (hx M) (And.intro rfl True.intro)
    refine r_aload_n dX3_clear_71 rfl ?_
    refine r_getf (v := .ref (G.2.2.2 (4 + 4))) dX3_clear_72 fX_4_9 kX3 (by decide) lkf_X3_21 rfl ?_
    refine r_iload_n dX3_clear_75 rfl ?_
    refine r_iconst (x := 0) dX3_clear_76 rfl ?_
    refine c_V (inv_SN (mi := mi_X3_clear) (rest := []) (X11_put_ok G aX_8p c1 0 M) rfl (by decide) dX3_clear_77 lkm_X3_62 cal_X11_put rfl (Nat.le_of_ble_eq_true rfl) rfl) (fun M12 => ?_)
    refine r_aload_n dX3_clear_80 rfl ?_
    refine r_getf (v := .ref (G.2.2.2 (4 + 5))) dX3_clear_81 fX_4_10 kX3 (by decide) lkf_X3_24 rfl ?_
    refine r_iload_n dX3_clear_84 rfl ?_
    refine r_iconst (x := 0) dX3_clear_85 rfl ?_
    refine c_V (inv_SN (mi := mi_X3_clear) (rest := []) (X11_put_ok G aX_9p c1 0 M12) rfl (by decide) dX3_clear_86 lkm_X3_62 cal_X11_put rfl (Nat.le_of_ble_eq_true rfl) rfl) (fun M13 => ?_)
    refine r_iinc (y := c1 + 1) (lv' := [some (.ref (G.2.2.2 (4))), some (.int (c1 + 1))]) dX3_clear_89 rfl rfl (Nat.le_of_ble_eq_true rfl) rfl rfl ?_
    refine r_goto (tgt := 65) dX3_clear_92 rfl ?_
    exact r_lk (ih (c1 + 1) M13) (And.intro rfl (And.intro rfl True.intro))
set_option maxRecDepth 100000 in
set_option maxHeartbeats 4000000 in
theorem X3_clear_L1_ok_4 (G : Gh) {dn : Option (Mem) → Option (Option Value × Mem)} (hs : dn none = none) (hx : ∀ (M10 : Mem), Wr G mi_X3_clear dn 63 [some (.ref (G.2.2.2 (4))), none] [] M10 (some M10)) : ∀ (n : Nat) (c1 : Int32) (M : Mem), Wr G mi_X3_clear dn 33 [some (.ref (G.2.2.2 (4))), some (.int c1)] [] M (X3_clear_L1 4 n c1 M) := by
  intro n
  induction n with
  | zero => intro c1 M; exact r_none (by exact hs)
  | succ n ih =>
    intro c1 M
    rw [X3_clear_L1]
    refine r_iload_n dX3_clear_33 rfl ?_
    refine r_iconst (x := 5) dX3_clear_34 rfl ?_
    refine r_icmp_ge (tgt := 63) dX3_clear_35 rfl (fun h7 => ?_) (fun h7 => ?_)
    · exact r_lk (hx M) (And.intro rfl True.intro)
    refine r_aload_n dX3_clear_38 rfl ?_
    refine r_getf (v := .ref (G.2.2.2 (4 + 2))) dX3_clear_39 fX_4_7 kX3 (by decide) lkf_X3_15 rfl ?_
    refine r_iload_n dX3_clear_42 rfl ?_
    refine r_iconst (x := 0) dX3_clear_43 rfl ?_
    refine c_V (inv_SN (mi := mi_X3_clear) (rest := []) (X11_put_ok G aX_6p c1 0 M) rfl (by decide) dX3_clear_44 lkm_X3_62 cal_X11_put rfl (Nat.le_of_ble_eq_true rfl) rfl) (fun M8 => ?_)
    refine r_aload_n dX3_clear_47 rfl ?_
    refine r_getf (v := .ref (G.2.2.2 (4 + 3))) dX3_clear_48 fX_4_8 kX3 (by decide) lkf_X3_18 rfl ?_
    refine r_iload_n dX3_clear_51 rfl ?_
    refine r_bipush (x := 10) dX3_clear_52 rfl ?_
    refine c_V (inv_SN (mi := mi_X3_clear) (rest := []) (X11_put_ok G aX_7p c1 10 M8) rfl (by decide) dX3_clear_54 lkm_X3_62 cal_X11_put rfl (Nat.le_of_ble_eq_true rfl) rfl) (fun M9 => ?_)
    refine r_iinc (y := c1 + 1) (lv' := [some (.ref (G.2.2.2 (4))), some (.int (c1 + 1))]) dX3_clear_57 rfl rfl (Nat.le_of_ble_eq_true rfl) rfl rfl ?_
    refine r_goto (tgt := 33) dX3_clear_60 rfl ?_
    exact r_lk (ih (c1 + 1) M9) (And.intro rfl (And.intro rfl True.intro))
set_option maxRecDepth 100000 in
set_option maxHeartbeats 4000000 in
theorem X3_clear_ok_4 (G : Gh) (M : Mem) : Mt G mi_X3_clear [.ref (G.2.2.2 (4))] M ((dO dV) (X3_clear 4 M)) := by
  refine Mt_of (lv := [some (.ref (G.2.2.2 (4)))]) (by decide) rfl (Nat.le_of_ble_eq_true rfl) rfl ?_
  refine r_le (lv' := [some (.ref (G.2.2.2 (4))), none]) (And.intro rfl True.intro) ?_
  unfold X3_clear
  refine r_aload_n dX3_clear_0 rfl ?_
  refine r_iconst (x := 0) dX3_clear_1 rfl ?_
  refine r_putI dX3_clear_2 fX_4_0 kX3 (by decide) rfl rfl lkf_X3_47 (fun _ => rfl) rfl rfl (fun M1 => ?_)
  refine r_aload_n dX3_clear_5 rfl ?_
  refine r_iconst (x := 0) dX3_clear_6 rfl ?_
  refine r_putI dX3_clear_7 fX_4_1 kX3 (by decide) rfl rfl lkf_X3_50 (fun _ => rfl) rfl rfl (fun M2 => ?_)
  refine r_aload_n dX3_clear_10 rfl ?_
  refine r_iconst (x := 0) dX3_clear_11 rfl ?_
  refine r_putI dX3_clear_12 fX_4_2 kX3 (by decide) rfl rfl lkf_X3_53 (fun _ => rfl) rfl rfl (fun M3 => ?_)
  refine r_aload_n dX3_clear_15 rfl ?_
  refine r_iconst (x := 0) dX3_clear_16 rfl ?_
  refine r_putI dX3_clear_17 fX_4_3 kX3 (by decide) rfl rfl lkf_X3_56 (fun _ => rfl) rfl rfl (fun M4 => ?_)
  refine r_aload_n dX3_clear_20 rfl ?_
  refine r_bipush (x := 6) dX3_clear_21 rfl ?_
  refine r_putI dX3_clear_23 fX_4_4 kX3 (by decide) rfl rfl lkf_X3_43 (fun _ => rfl) rfl rfl (fun M5 => ?_)
  refine r_aload_n dX3_clear_26 rfl ?_
  refine r_iconst (x := 0) dX3_clear_27 rfl ?_
  refine r_putI dX3_clear_28 fX_4_5 kX3 (by decide) rfl rfl lkf_X3_59 (fun _ => rfl) rfl rfl (fun M6 => ?_)
  refine r_iconst (x := 0) dX3_clear_31 rfl ?_
  refine r_istore_n (lv' := [some (.ref (G.2.2.2 (4))), some (.int 0)]) dX3_clear_32 (Nat.le_of_ble_eq_true rfl) rfl rfl ?_
  refine r_jB1 (j := 63) (lvj := fun M10 => [some (.ref (G.2.2.2 (4))), none]) (stj := fun M10 => []) (Mj := fun M10 => M10) (fun M10 => ?_) (fun hj63 => ?_)
  · refine r_iconst (x := 0) dX3_clear_63 rfl ?_
    refine r_istore_n (lv' := [some (.ref (G.2.2.2 (4))), some (.int 0)]) dX3_clear_64 (Nat.le_of_ble_eq_true rfl) rfl rfl ?_
    refine r_jB1 (j := 95) (lvj := fun M14 => [some (.ref (G.2.2.2 (4))), none]) (stj := fun M14 => []) (Mj := fun M14 => M14) (fun M14 => ?_) (fun hj95 => ?_)
    · refine r_iconst (x := 0) dX3_clear_95 rfl ?_
      refine r_istore_n (lv' := [some (.ref (G.2.2.2 (4))), some (.int 0)]) dX3_clear_96 (Nat.le_of_ble_eq_true rfl) rfl rfl ?_
      refine r_jB1 (j := 127) (lvj := fun M18 => [some (.ref (G.2.2.2 (4))), none]) (stj := fun M18 => []) (Mj := fun M18 => M18) (fun M18 => ?_) (fun hj127 => ?_)
      · refine r_aload_n dX3_clear_127 rfl ?_
        refine r_getf (v := .ref (G.2.2.2 (4 + 9))) dX3_clear_128 fX_4_14 kX3 (by decide) lkf_X3_39 rfl ?_
        refine c_V (inv_V (mi := mi_X3_clear) (b := 4 + 9) (rest := []) (X1_clear_ok_13 G M18) rfl (by decide) dX3_clear_131 lkm_X3_66 cal_X1_clear cX_13 rfl rfl (Nat.le_of_ble_eq_true rfl) rfl) (fun M19 => ?_)
        exact r_vret dX3_clear_134 rfl rfl
      exact r_lk (X3_clear_L3_ok_4 G rfl hj127 zFU 0 M14) (And.intro rfl (And.intro rfl True.intro))
    exact r_lk (X3_clear_L2_ok_4 G rfl hj95 zFU 0 M10) (And.intro rfl (And.intro rfl True.intro))
  exact r_lk (X3_clear_L1_ok_4 G rfl hj63 zFU 0 M6) (And.intro rfl (And.intro rfl True.intro))
set_option maxRecDepth 100000 in
set_option maxHeartbeats 4000000 in
theorem X3_clear_L3_ok_23 (G : Gh) {dn : Option (Mem) → Option (Option Value × Mem)} (hs : dn none = none) (hx : ∀ (M18 : Mem), Wr G mi_X3_clear dn 127 [some (.ref (G.2.2.2 (23))), none] [] M18 (some M18)) : ∀ (n : Nat) (c1 : Int32) (M : Mem), Wr G mi_X3_clear dn 97 [some (.ref (G.2.2.2 (23))), some (.int c1)] [] M (X3_clear_L3 23 n c1 M) := by
  intro n
  induction n with
  | zero => intro c1 M; exact r_none (by exact hs)
  | succ n ih =>
    intro c1 M
    rw [X3_clear_L3]
    refine r_iload_n dX3_clear_97 rfl ?_
    refine r_bipush (x := 9) dX3_clear_98 rfl ?_
    refine r_icmp_ge (tgt := 127) dX3_clear_100 rfl (fun h15 => ?_) (fun h15 => ?_)
    · exact r_lk (hx M) (And.intro rfl True.intro)
    refine r_aload_n dX3_clear_103 rfl ?_
    refine r_getf (v := .ref (G.2.2.2 (23 + 6))) dX3_clear_104 fX_23_11 kX3 (by decide) lkf_X3_27 rfl ?_
    refine r_iload_n dX3_clear_107 rfl ?_
    refine r_iconst (x := 0) dX3_clear_108 rfl ?_
    refine c_V (inv_SN (mi := mi_X3_clear) (rest := []) (X11_put_ok G aX_29p c1 0 M) rfl (by decide) dX3_clear_109 lkm_X3_62 cal_X11_put rfl (Nat.le_of_ble_eq_true rfl) rfl) (fun M16 => ?_)
    refine r_aload_n dX3_clear_112 rfl ?_
    refine r_getf (v := .ref (G.2.2.2 (23 + 7))) dX3_clear_113 fX_23_12 kX3 (by decide) lkf_X3_30 rfl ?_
    refine r_iload_n dX3_clear_116 rfl ?_
    refine r_iconst (x := 0) dX3_clear_117 rfl ?_
    refine c_V (inv_SN (mi := mi_X3_clear) (rest := []) (X11_put_ok G aX_30p c1 0 M16) rfl (by decide) dX3_clear_118 lkm_X3_62 cal_X11_put rfl (Nat.le_of_ble_eq_true rfl) rfl) (fun M17 => ?_)
    refine r_iinc (y := c1 + 1) (lv' := [some (.ref (G.2.2.2 (23))), some (.int (c1 + 1))]) dX3_clear_121 rfl rfl (Nat.le_of_ble_eq_true rfl) rfl rfl ?_
    refine r_goto (tgt := 97) dX3_clear_124 rfl ?_
    exact r_lk (ih (c1 + 1) M17) (And.intro rfl (And.intro rfl True.intro))
set_option maxRecDepth 100000 in
set_option maxHeartbeats 4000000 in
theorem X3_clear_L2_ok_23 (G : Gh) {dn : Option (Mem) → Option (Option Value × Mem)} (hs : dn none = none) (hx : ∀ (M14 : Mem), Wr G mi_X3_clear dn 95 [some (.ref (G.2.2.2 (23))), none] [] M14 (some M14)) : ∀ (n : Nat) (c1 : Int32) (M : Mem), Wr G mi_X3_clear dn 65 [some (.ref (G.2.2.2 (23))), some (.int c1)] [] M (X3_clear_L2 23 n c1 M) := by
  intro n
  induction n with
  | zero => intro c1 M; exact r_none (by exact hs)
  | succ n ih =>
    intro c1 M
    rw [X3_clear_L2]
    refine r_iload_n dX3_clear_65 rfl ?_
    refine r_bipush (x := 15) dX3_clear_66 rfl ?_
    refine r_icmp_ge (tgt := 95) dX3_clear_68 rfl (fun h11 => ?_) (fun h11 => ?_)
    · exact r_lk (hx M) (And.intro rfl True.intro)
    refine r_aload_n dX3_clear_71 rfl ?_
    refine r_getf (v := .ref (G.2.2.2 (23 + 4))) dX3_clear_72 fX_23_9 kX3 (by decide) lkf_X3_21 rfl ?_
    refine r_iload_n dX3_clear_75 rfl ?_
    refine r_iconst (x := 0) dX3_clear_76 rfl ?_
    refine c_V (inv_SN (mi := mi_X3_clear) (rest := []) (X11_put_ok G aX_27p c1 0 M) rfl (by decide) dX3_clear_77 lkm_X3_62 cal_X11_put rfl (Nat.le_of_ble_eq_true rfl) rfl) (fun M12 => ?_)
    refine r_aload_n dX3_clear_80 rfl ?_
    refine r_getf (v := .ref (G.2.2.2 (23 + 5))) dX3_clear_81 fX_23_10 kX3 (by decide) lkf_X3_24 rfl ?_
    refine r_iload_n dX3_clear_84 rfl ?_
    refine r_iconst (x := 0) dX3_clear_85 rfl ?_
    refine c_V (inv_SN (mi := mi_X3_clear) (rest := []) (X11_put_ok G aX_28p c1 0 M12) rfl (by decide) dX3_clear_86 lkm_X3_62 cal_X11_put rfl (Nat.le_of_ble_eq_true rfl) rfl) (fun M13 => ?_)
    refine r_iinc (y := c1 + 1) (lv' := [some (.ref (G.2.2.2 (23))), some (.int (c1 + 1))]) dX3_clear_89 rfl rfl (Nat.le_of_ble_eq_true rfl) rfl rfl ?_
    refine r_goto (tgt := 65) dX3_clear_92 rfl ?_
    exact r_lk (ih (c1 + 1) M13) (And.intro rfl (And.intro rfl True.intro))
set_option maxRecDepth 100000 in
set_option maxHeartbeats 4000000 in
theorem X3_clear_L1_ok_23 (G : Gh) {dn : Option (Mem) → Option (Option Value × Mem)} (hs : dn none = none) (hx : ∀ (M10 : Mem), Wr G mi_X3_clear dn 63 [some (.ref (G.2.2.2 (23))), none] [] M10 (some M10)) : ∀ (n : Nat) (c1 : Int32) (M : Mem), Wr G mi_X3_clear dn 33 [some (.ref (G.2.2.2 (23))), some (.int c1)] [] M (X3_clear_L1 23 n c1 M) := by
  intro n
  induction n with
  | zero => intro c1 M; exact r_none (by exact hs)
  | succ n ih =>
    intro c1 M
    rw [X3_clear_L1]
    refine r_iload_n dX3_clear_33 rfl ?_
    refine r_iconst (x := 5) dX3_clear_34 rfl ?_
    refine r_icmp_ge (tgt := 63) dX3_clear_35 rfl (fun h7 => ?_) (fun h7 => ?_)
    · exact r_lk (hx M) (And.intro rfl True.intro)
    refine r_aload_n dX3_clear_38 rfl ?_
    refine r_getf (v := .ref (G.2.2.2 (23 + 2))) dX3_clear_39 fX_23_7 kX3 (by decide) lkf_X3_15 rfl ?_
    refine r_iload_n dX3_clear_42 rfl ?_
    refine r_iconst (x := 0) dX3_clear_43 rfl ?_
    refine c_V (inv_SN (mi := mi_X3_clear) (rest := []) (X11_put_ok G aX_25p c1 0 M) rfl (by decide) dX3_clear_44 lkm_X3_62 cal_X11_put rfl (Nat.le_of_ble_eq_true rfl) rfl) (fun M8 => ?_)
    refine r_aload_n dX3_clear_47 rfl ?_
    refine r_getf (v := .ref (G.2.2.2 (23 + 3))) dX3_clear_48 fX_23_8 kX3 (by decide) lkf_X3_18 rfl ?_
    refine r_iload_n dX3_clear_51 rfl ?_
    refine r_bipush (x := 10) dX3_clear_52 rfl ?_
    refine c_V (inv_SN (mi := mi_X3_clear) (rest := []) (X11_put_ok G aX_26p c1 10 M8) rfl (by decide) dX3_clear_54 lkm_X3_62 cal_X11_put rfl (Nat.le_of_ble_eq_true rfl) rfl) (fun M9 => ?_)
    refine r_iinc (y := c1 + 1) (lv' := [some (.ref (G.2.2.2 (23))), some (.int (c1 + 1))]) dX3_clear_57 rfl rfl (Nat.le_of_ble_eq_true rfl) rfl rfl ?_
    refine r_goto (tgt := 33) dX3_clear_60 rfl ?_
    exact r_lk (ih (c1 + 1) M9) (And.intro rfl (And.intro rfl True.intro))
set_option maxRecDepth 100000 in
set_option maxHeartbeats 4000000 in
theorem X3_clear_ok_23 (G : Gh) (M : Mem) : Mt G mi_X3_clear [.ref (G.2.2.2 (23))] M ((dO dV) (X3_clear 23 M)) := by
  refine Mt_of (lv := [some (.ref (G.2.2.2 (23)))]) (by decide) rfl (Nat.le_of_ble_eq_true rfl) rfl ?_
  refine r_le (lv' := [some (.ref (G.2.2.2 (23))), none]) (And.intro rfl True.intro) ?_
  unfold X3_clear
  refine r_aload_n dX3_clear_0 rfl ?_
  refine r_iconst (x := 0) dX3_clear_1 rfl ?_
  refine r_putI dX3_clear_2 fX_23_0 kX3 (by decide) rfl rfl lkf_X3_47 (fun _ => rfl) rfl rfl (fun M1 => ?_)
  refine r_aload_n dX3_clear_5 rfl ?_
  refine r_iconst (x := 0) dX3_clear_6 rfl ?_
  refine r_putI dX3_clear_7 fX_23_1 kX3 (by decide) rfl rfl lkf_X3_50 (fun _ => rfl) rfl rfl (fun M2 => ?_)
  refine r_aload_n dX3_clear_10 rfl ?_
  refine r_iconst (x := 0) dX3_clear_11 rfl ?_
  refine r_putI dX3_clear_12 fX_23_2 kX3 (by decide) rfl rfl lkf_X3_53 (fun _ => rfl) rfl rfl (fun M3 => ?_)
  refine r_aload_n dX3_clear_15 rfl ?_
  refine r_iconst (x := 0) dX3_clear_16 rfl ?_
  refine r_putI dX3_clear_17 fX_23_3 kX3 (by decide) rfl rfl lkf_X3_56 (fun _ => rfl) rfl rfl (fun M4 => ?_)
  refine r_aload_n dX3_clear_20 rfl ?_
  refine r_bipush (x := 6) dX3_clear_21 rfl ?_
  refine r_putI dX3_clear_23 fX_23_4 kX3 (by decide) rfl rfl lkf_X3_43 (fun _ => rfl) rfl rfl (fun M5 => ?_)
  refine r_aload_n dX3_clear_26 rfl ?_
  refine r_iconst (x := 0) dX3_clear_27 rfl ?_
  refine r_putI dX3_clear_28 fX_23_5 kX3 (by decide) rfl rfl lkf_X3_59 (fun _ => rfl) rfl rfl (fun M6 => ?_)
  refine r_iconst (x := 0) dX3_clear_31 rfl ?_
  refine r_istore_n (lv' := [some (.ref (G.2.2.2 (23))), some (.int 0)]) dX3_clear_32 (Nat.le_of_ble_eq_true rfl) rfl rfl ?_
  refine r_jB1 (j := 63) (lvj := fun M10 => [some (.ref (G.2.2.2 (23))), none]) (stj := fun M10 => []) (Mj := fun M10 => M10) (fun M10 => ?_) (fun hj63 => ?_)
  · refine r_iconst (x := 0) dX3_clear_63 rfl ?_
    refine r_istore_n (lv' := [some (.ref (G.2.2.2 (23))), some (.int 0)]) dX3_clear_64 (Nat.le_of_ble_eq_true rfl) rfl rfl ?_
    refine r_jB1 (j := 95) (lvj := fun M14 => [some (.ref (G.2.2.2 (23))), none]) (stj := fun M14 => []) (Mj := fun M14 => M14) (fun M14 => ?_) (fun hj95 => ?_)
    · refine r_iconst (x := 0) dX3_clear_95 rfl ?_
      refine r_istore_n (lv' := [some (.ref (G.2.2.2 (23))), some (.int 0)]) dX3_clear_96 (Nat.le_of_ble_eq_true rfl) rfl rfl ?_
      refine r_jB1 (j := 127) (lvj := fun M18 => [some (.ref (G.2.2.2 (23))), none]) (stj := fun M18 => []) (Mj := fun M18 => M18) (fun M18 => ?_) (fun hj127 => ?_)
      · refine r_aload_n dX3_clear_127 rfl ?_
        refine r_getf (v := .ref (G.2.2.2 (23 + 9))) dX3_clear_128 fX_23_14 kX3 (by decide) lkf_X3_39 rfl ?_
        refine c_V (inv_V (mi := mi_X3_clear) (b := 23 + 9) (rest := []) (X1_clear_ok_32 G M18) rfl (by decide) dX3_clear_131 lkm_X3_66 cal_X1_clear cX_32 rfl rfl (Nat.le_of_ble_eq_true rfl) rfl) (fun M19 => ?_)
        exact r_vret dX3_clear_134 rfl rfl
      exact r_lk (X3_clear_L3_ok_23 G rfl hj127 zFU 0 M14) (And.intro rfl (And.intro rfl True.intro))
    exact r_lk (X3_clear_L2_ok_23 G rfl hj95 zFU 0 M10) (And.intro rfl (And.intro rfl True.intro))
  exact r_lk (X3_clear_L1_ok_23 G rfl hj63 zFU 0 M6) (And.intro rfl (And.intro rfl True.intro))

theorem dX4_forgetTold_0 : decode cX4_forgetTold 0 = .ok (.aload_n 0, 1) := by decide +kernel
theorem dX4_forgetTold_1 : decode cX4_forgetTold 1 = .ok (.iconst 0, 1) := by decide +kernel
theorem dX4_forgetTold_2 : decode cX4_forgetTold 2 = .ok (.putfield 80, 3) := by decide +kernel
theorem dX4_forgetTold_5 : decode cX4_forgetTold 5 = .ok (.aload_n 0, 1) := by decide +kernel
theorem dX4_forgetTold_6 : decode cX4_forgetTold 6 = .ok (.iconst 0, 1) := by decide +kernel
theorem dX4_forgetTold_7 : decode cX4_forgetTold 7 = .ok (.putfield 84, 3) := by decide +kernel
theorem dX4_forgetTold_10 : decode cX4_forgetTold 10 = .ok (.aload_n 0, 1) := by decide +kernel
theorem dX4_forgetTold_11 : decode cX4_forgetTold 11 = .ok (.iconst 0, 1) := by decide +kernel
theorem dX4_forgetTold_12 : decode cX4_forgetTold 12 = .ok (.putfield 87, 3) := by decide +kernel
theorem dX4_forgetTold_15 : decode cX4_forgetTold 15 = .ok (.iconst 0, 1) := by decide +kernel
theorem dX4_forgetTold_16 : decode cX4_forgetTold 16 = .ok (.istore_n 1, 1) := by decide +kernel
theorem dX4_forgetTold_17 : decode cX4_forgetTold 17 = .ok (.iload_n 1, 1) := by decide +kernel
theorem dX4_forgetTold_18 : decode cX4_forgetTold 18 = .ok (.aload_n 0, 1) := by decide +kernel
theorem dX4_forgetTold_19 : decode cX4_forgetTold 19 = .ok (.getfield 25, 3) := by decide +kernel
theorem dX4_forgetTold_22 : decode cX4_forgetTold 22 = .ok (.arraylength, 1) := by decide +kernel
theorem dX4_forgetTold_23 : decode cX4_forgetTold 23 = .ok (.if_icmp .ge 16, 3) := by decide +kernel
theorem dX4_forgetTold_26 : decode cX4_forgetTold 26 = .ok (.aload_n 0, 1) := by decide +kernel
theorem dX4_forgetTold_27 : decode cX4_forgetTold 27 = .ok (.getfield 25, 3) := by decide +kernel
theorem dX4_forgetTold_30 : decode cX4_forgetTold 30 = .ok (.iload_n 1, 1) := by decide +kernel
theorem dX4_forgetTold_31 : decode cX4_forgetTold 31 = .ok (.iconst 0, 1) := by decide +kernel
theorem dX4_forgetTold_32 : decode cX4_forgetTold 32 = .ok (.bastore, 1) := by decide +kernel
theorem dX4_forgetTold_33 : decode cX4_forgetTold 33 = .ok (.iinc 1 1, 3) := by decide +kernel
theorem dX4_forgetTold_36 : decode cX4_forgetTold 36 = .ok (.goto (-19), 3) := by decide +kernel
theorem dX4_forgetTold_39 : decode cX4_forgetTold 39 = .ok (.iconst 0, 1) := by decide +kernel
theorem dX4_forgetTold_40 : decode cX4_forgetTold 40 = .ok (.istore_n 1, 1) := by decide +kernel
theorem dX4_forgetTold_41 : decode cX4_forgetTold 41 = .ok (.iload_n 1, 1) := by decide +kernel
theorem dX4_forgetTold_42 : decode cX4_forgetTold 42 = .ok (.aload_n 0, 1) := by decide +kernel
theorem dX4_forgetTold_43 : decode cX4_forgetTold 43 = .ok (.getfield 18, 3) := by decide +kernel
theorem dX4_forgetTold_46 : decode cX4_forgetTold 46 = .ok (.arraylength, 1) := by decide +kernel
theorem dX4_forgetTold_47 : decode cX4_forgetTold 47 = .ok (.if_icmp .ge 32, 3) := by decide +kernel
theorem dX4_forgetTold_50 : decode cX4_forgetTold 50 = .ok (.iload_n 1, 1) := by decide +kernel
theorem dX4_forgetTold_51 : decode cX4_forgetTold 51 = .ok (.aload_n 0, 1) := by decide +kernel
theorem dX4_forgetTold_52 : decode cX4_forgetTold 52 = .ok (.getfield 22, 3) := by decide +kernel
theorem dX4_forgetTold_55 : decode cX4_forgetTold 55 = .ok (.arraylength, 1) := by decide +kernel
theorem dX4_forgetTold_56 : decode cX4_forgetTold 56 = .ok (.if_icmp .ge 23, 3) := by decide +kernel
theorem dX4_forgetTold_59 : decode cX4_forgetTold 59 = .ok (.aload_n 0, 1) := by decide +kernel
theorem dX4_forgetTold_60 : decode cX4_forgetTold 60 = .ok (.getfield 18, 3) := by decide +kernel
theorem dX4_forgetTold_63 : decode cX4_forgetTold 63 = .ok (.iload_n 1, 1) := by decide +kernel
theorem dX4_forgetTold_64 : decode cX4_forgetTold 64 = .ok (.iconst 0, 1) := by decide +kernel
theorem dX4_forgetTold_65 : decode cX4_forgetTold 65 = .ok (.bastore, 1) := by decide +kernel
theorem dX4_forgetTold_66 : decode cX4_forgetTold 66 = .ok (.aload_n 0, 1) := by decide +kernel
theorem dX4_forgetTold_67 : decode cX4_forgetTold 67 = .ok (.getfield 22, 3) := by decide +kernel
theorem dX4_forgetTold_70 : decode cX4_forgetTold 70 = .ok (.iload_n 1, 1) := by decide +kernel
theorem dX4_forgetTold_71 : decode cX4_forgetTold 71 = .ok (.iconst 0, 1) := by decide +kernel
theorem dX4_forgetTold_72 : decode cX4_forgetTold 72 = .ok (.bastore, 1) := by decide +kernel
theorem dX4_forgetTold_73 : decode cX4_forgetTold 73 = .ok (.iinc 1 1, 3) := by decide +kernel
theorem dX4_forgetTold_76 : decode cX4_forgetTold 76 = .ok (.goto (-35), 3) := by decide +kernel
theorem dX4_forgetTold_79 : decode cX4_forgetTold 79 = .ok (.return_, 1) := by decide +kernel
abbrev mi_X4_forgetTold : MI := (zTX, RX4, yX4_forgetTold, cX4_forgetTold, 2, none, 2)
theorem cal_X4_forgetTold : zCalV mi_X4_forgetTold 0 := ⟨⟨zTB_i2 220 (by decide +kernel), zTB_i2 219 (by decide +kernel), zTB_i0 0 (by decide +kernel), zTB_i1 3 (by decide +kernel)⟩, ⟨by decide, by decide, by decide +kernel⟩, by decide⟩
noncomputable def X4_forgetTold_L2 : Nat → Int32 → Mem → Option (Mem)
  | 0, _, _ => none
  | n + 1, c1, M =>
    if (15) ≤ c1 then
      some M
    else
    if (15) ≤ c1 then
      some M
    else
    gd_ (inb c1 (15) = true) (
    lt_ (uI M 20 c1.toNatClampNeg 0) fun M11 =>
    gd_ (inb c1 (15) = true) (
    lt_ (uI M11 21 c1.toNatClampNeg 0) fun M13 =>
    X4_forgetTold_L2 n (c1 + 1) M13))
noncomputable def X4_forgetTold_L1 : Nat → Int32 → Mem → Option (Mem)
  | 0, _, _ => none
  | n + 1, c1, M =>
    if (5) ≤ c1 then
      some M
    else
    gd_ (inb c1 (5) = true) (
    lt_ (uI M 22 c1.toNatClampNeg 0) fun M6 =>
    X4_forgetTold_L1 n (c1 + 1) M6)
noncomputable def X4_forgetTold (M : Mem) : Option (Mem) :=
  lt_ (uI M 3 8 0) fun M1 =>
  lt_ (uI M1 3 9 0) fun M2 =>
  lt_ (uI M2 3 10 0) fun M3 =>
  b1_ (α := Mem) (X4_forgetTold_L1 zFU 0 M3) fun M7 =>
  b1_ (α := Mem) (X4_forgetTold_L2 zFU 0 M7) fun M14 =>
  some M14
set_option maxRecDepth 100000 in
set_option maxHeartbeats 4000000 in
theorem X4_forgetTold_L2_ok (G : Gh) {dn : Option (Mem) → Option (Option Value × Mem)} (hs : dn none = none) (hx : ∀ (M14 : Mem), Wr G mi_X4_forgetTold dn 79 [none, none] [] M14 (some M14)) : ∀ (n : Nat) (c1 : Int32) (M : Mem), Wr G mi_X4_forgetTold dn 41 [some (.ref (G.2.2.2 (3))), some (.int c1)] [] M (X4_forgetTold_L2 n c1 M) := by
  intro n
  induction n with
  | zero => intro c1 M; exact r_none (by exact hs)
  | succ n ih =>
    intro c1 M
    rw [X4_forgetTold_L2]
    refine r_iload_n dX4_forgetTold_41 rfl ?_
    refine r_aload_n dX4_forgetTold_42 rfl ?_
    refine r_getf (v := .ref (G.2.2.2 (20))) dX4_forgetTold_43 fX_3_5 kX4 (by decide) lkf_X4_18 rfl ?_
    refine r_alen (v := 15) dX4_forgetTold_46 aX_20 (by decide) rfl ?_
    refine r_icmp_ge (tgt := 79) dX4_forgetTold_47 rfl (fun h8 => ?_) (fun h8 => ?_)
    · exact r_lk (hx M) True.intro
    refine r_iload_n dX4_forgetTold_50 rfl ?_
    refine r_aload_n dX4_forgetTold_51 rfl ?_
    refine r_getf (v := .ref (G.2.2.2 (21))) dX4_forgetTold_52 fX_3_6 kX4 (by decide) lkf_X4_22 rfl ?_
    refine r_alen (v := 15) dX4_forgetTold_55 aX_21 (by decide) rfl ?_
    refine r_icmp_ge (tgt := 79) dX4_forgetTold_56 rfl (fun h9 => ?_) (fun h9 => ?_)
    · exact r_lk (hx M) True.intro
    refine r_aload_n dX4_forgetTold_59 rfl ?_
    refine r_getf (v := .ref (G.2.2.2 (20))) dX4_forgetTold_60 fX_3_5 kX4 (by decide) lkf_X4_18 rfl ?_
    refine r_iload_n dX4_forgetTold_63 rfl ?_
    refine r_iconst (x := 0) dX4_forgetTold_64 rfl ?_
    refine r_gd (by exact hs) (fun g10 => ?_)
    refine r_zast dX4_forgetTold_65 aX_20 (inb_in g10) rfl (y := 0) rfl (fun M11 => ?_)
    refine r_aload_n dX4_forgetTold_66 rfl ?_
    refine r_getf (v := .ref (G.2.2.2 (21))) dX4_forgetTold_67 fX_3_6 kX4 (by decide) lkf_X4_22 rfl ?_
    refine r_iload_n dX4_forgetTold_70 rfl ?_
    refine r_iconst (x := 0) dX4_forgetTold_71 rfl ?_
    refine r_gd (by exact hs) (fun g12 => ?_)
    refine r_zast dX4_forgetTold_72 aX_21 (inb_in g12) rfl (y := 0) rfl (fun M13 => ?_)
    refine r_iinc (y := c1 + 1) (lv' := [some (.ref (G.2.2.2 (3))), some (.int (c1 + 1))]) dX4_forgetTold_73 rfl rfl (Nat.le_of_ble_eq_true rfl) rfl rfl ?_
    refine r_goto (tgt := 41) dX4_forgetTold_76 rfl ?_
    exact r_lk (ih (c1 + 1) M13) (And.intro rfl (And.intro rfl True.intro))
set_option maxRecDepth 100000 in
set_option maxHeartbeats 4000000 in
theorem X4_forgetTold_L1_ok (G : Gh) {dn : Option (Mem) → Option (Option Value × Mem)} (hs : dn none = none) (hx : ∀ (M7 : Mem), Wr G mi_X4_forgetTold dn 39 [some (.ref (G.2.2.2 (3))), none] [] M7 (some M7)) : ∀ (n : Nat) (c1 : Int32) (M : Mem), Wr G mi_X4_forgetTold dn 17 [some (.ref (G.2.2.2 (3))), some (.int c1)] [] M (X4_forgetTold_L1 n c1 M) := by
  intro n
  induction n with
  | zero => intro c1 M; exact r_none (by exact hs)
  | succ n ih =>
    intro c1 M
    rw [X4_forgetTold_L1]
    refine r_iload_n dX4_forgetTold_17 rfl ?_
    refine r_aload_n dX4_forgetTold_18 rfl ?_
    refine r_getf (v := .ref (G.2.2.2 (22))) dX4_forgetTold_19 fX_3_7 kX4 (by decide) lkf_X4_25 rfl ?_
    refine r_alen (v := 5) dX4_forgetTold_22 aX_22 (by decide) rfl ?_
    refine r_icmp_ge (tgt := 39) dX4_forgetTold_23 rfl (fun h4 => ?_) (fun h4 => ?_)
    · exact r_lk (hx M) (And.intro rfl True.intro)
    refine r_aload_n dX4_forgetTold_26 rfl ?_
    refine r_getf (v := .ref (G.2.2.2 (22))) dX4_forgetTold_27 fX_3_7 kX4 (by decide) lkf_X4_25 rfl ?_
    refine r_iload_n dX4_forgetTold_30 rfl ?_
    refine r_iconst (x := 0) dX4_forgetTold_31 rfl ?_
    refine r_gd (by exact hs) (fun g5 => ?_)
    refine r_zast dX4_forgetTold_32 aX_22 (inb_in g5) rfl (y := 0) rfl (fun M6 => ?_)
    refine r_iinc (y := c1 + 1) (lv' := [some (.ref (G.2.2.2 (3))), some (.int (c1 + 1))]) dX4_forgetTold_33 rfl rfl (Nat.le_of_ble_eq_true rfl) rfl rfl ?_
    refine r_goto (tgt := 17) dX4_forgetTold_36 rfl ?_
    exact r_lk (ih (c1 + 1) M6) (And.intro rfl (And.intro rfl True.intro))
set_option maxRecDepth 100000 in
set_option maxHeartbeats 4000000 in
theorem X4_forgetTold_ok (G : Gh) (M : Mem) : Mt G mi_X4_forgetTold [.ref (G.2.2.2 (3))] M ((dO dV) (X4_forgetTold M)) := by
  refine Mt_of (lv := [some (.ref (G.2.2.2 (3)))]) (by decide) rfl (Nat.le_of_ble_eq_true rfl) rfl ?_
  refine r_le (lv' := [some (.ref (G.2.2.2 (3))), none]) (And.intro rfl True.intro) ?_
  unfold X4_forgetTold
  refine r_aload_n dX4_forgetTold_0 rfl ?_
  refine r_iconst (x := 0) dX4_forgetTold_1 rfl ?_
  refine r_putI dX4_forgetTold_2 fX_3_8 kX4 (by decide) rfl rfl lkf_X4_80 (fun _ => rfl) rfl rfl (fun M1 => ?_)
  refine r_aload_n dX4_forgetTold_5 rfl ?_
  refine r_iconst (x := 0) dX4_forgetTold_6 rfl ?_
  refine r_putI dX4_forgetTold_7 fX_3_9 kX4 (by decide) rfl rfl lkf_X4_84 (fun _ => rfl) rfl rfl (fun M2 => ?_)
  refine r_aload_n dX4_forgetTold_10 rfl ?_
  refine r_iconst (x := 0) dX4_forgetTold_11 rfl ?_
  refine r_putI dX4_forgetTold_12 fX_3_10 kX4 (by decide) rfl rfl lkf_X4_87 (fun _ => rfl) rfl rfl (fun M3 => ?_)
  refine r_iconst (x := 0) dX4_forgetTold_15 rfl ?_
  refine r_istore_n (lv' := [some (.ref (G.2.2.2 (3))), some (.int 0)]) dX4_forgetTold_16 (Nat.le_of_ble_eq_true rfl) rfl rfl ?_
  refine r_jB1 (j := 39) (lvj := fun M7 => [some (.ref (G.2.2.2 (3))), none]) (stj := fun M7 => []) (Mj := fun M7 => M7) (fun M7 => ?_) (fun hj39 => ?_)
  · refine r_iconst (x := 0) dX4_forgetTold_39 rfl ?_
    refine r_istore_n (lv' := [some (.ref (G.2.2.2 (3))), some (.int 0)]) dX4_forgetTold_40 (Nat.le_of_ble_eq_true rfl) rfl rfl ?_
    refine r_jB1 (j := 79) (lvj := fun M14 => [none, none]) (stj := fun M14 => []) (Mj := fun M14 => M14) (fun M14 => ?_) (fun hj79 => ?_)
    · exact r_vret dX4_forgetTold_79 rfl rfl
    exact r_lk (X4_forgetTold_L2_ok G rfl hj79 zFU 0 M7) (And.intro rfl (And.intro rfl True.intro))
  exact r_lk (X4_forgetTold_L1_ok G rfl hj39 zFU 0 M3) (And.intro rfl (And.intro rfl True.intro))

theorem dX10_byteAt_0 : decode cX10_byteAt 0 = .ok (.iload_n 1, 1) := by decide +kernel
theorem dX10_byteAt_1 : decode cX10_byteAt 1 = .ok (.ifCond .lt 33, 3) := by decide +kernel
theorem dX10_byteAt_4 : decode cX10_byteAt 4 = .ok (.iload_n 1, 1) := by decide +kernel
theorem dX10_byteAt_5 : decode cX10_byteAt 5 = .ok (.aload_n 0, 1) := by decide +kernel
theorem dX10_byteAt_6 : decode cX10_byteAt 6 = .ok (.getfield 15, 3) := by decide +kernel
theorem dX10_byteAt_9 : decode cX10_byteAt 9 = .ok (.if_icmp .ge 25, 3) := by decide +kernel
theorem dX10_byteAt_12 : decode cX10_byteAt 12 = .ok (.iload_n 1, 1) := by decide +kernel
theorem dX10_byteAt_13 : decode cX10_byteAt 13 = .ok (.aload_n 0, 1) := by decide +kernel
theorem dX10_byteAt_14 : decode cX10_byteAt 14 = .ok (.getfield 9, 3) := by decide +kernel
theorem dX10_byteAt_17 : decode cX10_byteAt 17 = .ok (.arraylength, 1) := by decide +kernel
theorem dX10_byteAt_18 : decode cX10_byteAt 18 = .ok (.if_icmp .ge 16, 3) := by decide +kernel
theorem dX10_byteAt_21 : decode cX10_byteAt 21 = .ok (.aload_n 0, 1) := by decide +kernel
theorem dX10_byteAt_22 : decode cX10_byteAt 22 = .ok (.getfield 9, 3) := by decide +kernel
theorem dX10_byteAt_25 : decode cX10_byteAt 25 = .ok (.iload_n 1, 1) := by decide +kernel
theorem dX10_byteAt_26 : decode cX10_byteAt 26 = .ok (.baload, 1) := by decide +kernel
theorem dX10_byteAt_27 : decode cX10_byteAt 27 = .ok (.sipush 255, 3) := by decide +kernel
theorem dX10_byteAt_30 : decode cX10_byteAt 30 = .ok (.iand, 1) := by decide +kernel
theorem dX10_byteAt_31 : decode cX10_byteAt 31 = .ok (.goto 4, 3) := by decide +kernel
theorem dX10_byteAt_34 : decode cX10_byteAt 34 = .ok (.iconst (-1), 1) := by decide +kernel
theorem dX10_byteAt_35 : decode cX10_byteAt 35 = .ok (.ireturn, 1) := by decide +kernel
abbrev mi_X10_byteAt : MI := (zTX, RX10, yX10_byteAt, cX10_byteAt, 2, (some .int), 2)
theorem cal_X10_byteAt : zCalV mi_X10_byteAt 1 := ⟨⟨zTB_i2 232 (by decide +kernel), zTB_i2 230 (by decide +kernel), zTB_i2 231 (by decide +kernel), zTB_i1 2 (by decide +kernel)⟩, ⟨by decide, by decide, by decide +kernel⟩, by decide⟩
noncomputable def X10_byteAt (x1 : Int32) (M : Mem) : Int32 :=
  if x1 < 0 then
    (-1)
  else
  if (M.1 1 1) ≤ x1 then
    (-1)
  else
  if (1600) ≤ x1 then
    (-1)
  else
  (M.1 2 x1.toNatClampNeg) &&& 255
set_option maxRecDepth 100000 in
set_option maxHeartbeats 4000000 in
theorem X10_byteAt_ok (G : Gh) (x1 : Int32) (M : Mem) : Mt G mi_X10_byteAt [.ref (G.2.2.2 (1)), .int x1] M ((dI M) (X10_byteAt x1 M)) := by
  refine Mt_of (lv := [some (.ref (G.2.2.2 (1))), some (.int x1)]) (by decide) rfl (Nat.le_of_ble_eq_true rfl) rfl ?_
  unfold X10_byteAt
  refine r_iload_n dX10_byteAt_0 rfl ?_
  refine r_if_lt (tgt := 34) dX10_byteAt_1 rfl (fun h1 => ?_) (fun h1 => ?_)
  · refine r_iconst (x := (-1)) dX10_byteAt_34 rfl ?_
    exact r_iret (ty := .int) dX10_byteAt_35 rfl rfl rfl
  refine r_iload_n dX10_byteAt_4 rfl ?_
  refine r_aload_n dX10_byteAt_5 rfl ?_
  refine r_getf (v := .int (M.1 1 1)) dX10_byteAt_6 fX_1_1 kX10 (by decide) lkf_X10_15 rfl ?_
  refine r_icmp_ge (tgt := 34) dX10_byteAt_9 rfl (fun h2 => ?_) (fun h2 => ?_)
  · refine r_iconst (x := (-1)) dX10_byteAt_34 rfl ?_
    exact r_iret (ty := .int) dX10_byteAt_35 rfl rfl rfl
  refine r_iload_n dX10_byteAt_12 rfl ?_
  refine r_aload_n dX10_byteAt_13 rfl ?_
  refine r_getf (v := .ref (G.2.2.2 (2))) dX10_byteAt_14 fX_1_0 kX10 (by decide) lkf_X10_9 rfl ?_
  refine r_alen (v := 1600) dX10_byteAt_17 aX_2 (by decide) rfl ?_
  refine r_icmp_ge (tgt := 34) dX10_byteAt_18 rfl (fun h3 => ?_) (fun h3 => ?_)
  · refine r_iconst (x := (-1)) dX10_byteAt_34 rfl ?_
    exact r_iret (ty := .int) dX10_byteAt_35 rfl rfl rfl
  refine r_aload_n dX10_byteAt_21 rfl ?_
  refine r_getf (v := .ref (G.2.2.2 (2))) dX10_byteAt_22 fX_1_0 kX10 (by decide) lkf_X10_9 rfl ?_
  refine r_iload_n dX10_byteAt_25 rfl ?_
  refine r_bald dX10_byteAt_26 aX_2 (vin h1 h3 (by decide)) rfl ?_
  refine r_sipush (x := 255) dX10_byteAt_27 rfl ?_
  refine r_iand dX10_byteAt_30 ?_
  refine r_goto (tgt := 35) dX10_byteAt_31 rfl ?_
  exact r_iret (ty := .int) dX10_byteAt_35 rfl rfl rfl

theorem dX6_isBlank_0 : decode cX6_isBlank 0 = .ok (.iload_n 0, 1) := by decide +kernel
theorem dX6_isBlank_1 : decode cX6_isBlank 1 = .ok (.bipush 32, 2) := by decide +kernel
theorem dX6_isBlank_3 : decode cX6_isBlank 3 = .ok (.if_icmp .eq 9, 3) := by decide +kernel
theorem dX6_isBlank_6 : decode cX6_isBlank 6 = .ok (.iload_n 0, 1) := by decide +kernel
theorem dX6_isBlank_7 : decode cX6_isBlank 7 = .ok (.bipush 10, 2) := by decide +kernel
theorem dX6_isBlank_9 : decode cX6_isBlank 9 = .ok (.if_icmp .ne 7, 3) := by decide +kernel
theorem dX6_isBlank_12 : decode cX6_isBlank 12 = .ok (.iconst 1, 1) := by decide +kernel
theorem dX6_isBlank_13 : decode cX6_isBlank 13 = .ok (.goto 4, 3) := by decide +kernel
theorem dX6_isBlank_16 : decode cX6_isBlank 16 = .ok (.iconst 0, 1) := by decide +kernel
theorem dX6_isBlank_17 : decode cX6_isBlank 17 = .ok (.ireturn, 1) := by decide +kernel
abbrev mi_X6_isBlank : MI := (zTX, RX6, yX6_isBlank, cX6_isBlank, 1, (some .boolean), 2)
theorem cal_X6_isBlank : zCalS mi_X6_isBlank 1 := ⟨⟨zTB_i2 235 (by decide +kernel), zTB_i2 234 (by decide +kernel), zTB_i1 6 (by decide +kernel)⟩, ⟨by decide, by decide, by decide +kernel⟩, by decide⟩
noncomputable def X6_isBlank (x0 : Int32) : Bool :=
  if x0 = 32 then
    true
  else
  if x0 = 10 then
    true
  else
  false
set_option maxRecDepth 100000 in
set_option maxHeartbeats 4000000 in
theorem X6_isBlank_ok (G : Gh) (x0 : Int32) (M : Mem) : Mt G mi_X6_isBlank [.int x0] M ((dZ M) (X6_isBlank x0)) := by
  refine Mt_of (lv := [some (.int x0)]) (by decide) rfl (Nat.le_of_ble_eq_true rfl) rfl ?_
  unfold X6_isBlank
  refine r_iload_n dX6_isBlank_0 rfl ?_
  refine r_bipush (x := 32) dX6_isBlank_1 rfl ?_
  refine r_icmp_eq (tgt := 12) dX6_isBlank_3 rfl (fun h1 => ?_) (fun h1 => ?_)
  · refine r_iconst (x := 1) dX6_isBlank_12 rfl ?_
    refine r_goto (tgt := 17) dX6_isBlank_13 rfl ?_
    exact r_iret (ty := .boolean) dX6_isBlank_17 rfl rfl rfl
  refine r_iload_n dX6_isBlank_6 rfl ?_
  refine r_bipush (x := 10) dX6_isBlank_7 rfl ?_
  refine r_icmp_ne (tgt := 16) dX6_isBlank_9 rfl (fun h2 => ?_) (fun h2 => ?_)
  · refine r_iconst (x := 1) dX6_isBlank_12 rfl ?_
    refine r_goto (tgt := 17) dX6_isBlank_13 rfl ?_
    exact r_iret (ty := .boolean) dX6_isBlank_17 rfl rfl rfl
  refine r_iconst (x := 0) dX6_isBlank_16 rfl ?_
  exact r_iret (ty := .boolean) dX6_isBlank_17 rfl rfl rfl

theorem dX6_isLetter_0 : decode cX6_isLetter 0 = .ok (.iload_n 0, 1) := by decide +kernel
theorem dX6_isLetter_1 : decode cX6_isLetter 1 = .ok (.bipush 97, 2) := by decide +kernel
theorem dX6_isLetter_3 : decode cX6_isLetter 3 = .ok (.if_icmp .lt 13, 3) := by decide +kernel
theorem dX6_isLetter_6 : decode cX6_isLetter 6 = .ok (.iload_n 0, 1) := by decide +kernel
theorem dX6_isLetter_7 : decode cX6_isLetter 7 = .ok (.bipush 122, 2) := by decide +kernel
theorem dX6_isLetter_9 : decode cX6_isLetter 9 = .ok (.if_icmp .gt 7, 3) := by decide +kernel
theorem dX6_isLetter_12 : decode cX6_isLetter 12 = .ok (.iconst 1, 1) := by decide +kernel
theorem dX6_isLetter_13 : decode cX6_isLetter 13 = .ok (.goto 4, 3) := by decide +kernel
theorem dX6_isLetter_16 : decode cX6_isLetter 16 = .ok (.iconst 0, 1) := by decide +kernel
theorem dX6_isLetter_17 : decode cX6_isLetter 17 = .ok (.ireturn, 1) := by decide +kernel
abbrev mi_X6_isLetter : MI := (zTX, RX6, yX6_isLetter, cX6_isLetter, 1, (some .boolean), 2)
theorem cal_X6_isLetter : zCalS mi_X6_isLetter 1 := ⟨⟨zTB_i2 238 (by decide +kernel), zTB_i2 237 (by decide +kernel), zTB_i1 6 (by decide +kernel)⟩, ⟨by decide, by decide, by decide +kernel⟩, by decide⟩
noncomputable def X6_isLetter (x0 : Int32) : Bool :=
  if x0 < 97 then
    false
  else
  if 122 < x0 then
    false
  else
  true
set_option maxRecDepth 100000 in
set_option maxHeartbeats 4000000 in
theorem X6_isLetter_ok (G : Gh) (x0 : Int32) (M : Mem) : Mt G mi_X6_isLetter [.int x0] M ((dZ M) (X6_isLetter x0)) := by
  refine Mt_of (lv := [some (.int x0)]) (by decide) rfl (Nat.le_of_ble_eq_true rfl) rfl ?_
  unfold X6_isLetter
  refine r_iload_n dX6_isLetter_0 rfl ?_
  refine r_bipush (x := 97) dX6_isLetter_1 rfl ?_
  refine r_icmp_lt (tgt := 16) dX6_isLetter_3 rfl (fun h1 => ?_) (fun h1 => ?_)
  · refine r_iconst (x := 0) dX6_isLetter_16 rfl ?_
    exact r_iret (ty := .boolean) dX6_isLetter_17 rfl rfl rfl
  refine r_iload_n dX6_isLetter_6 rfl ?_
  refine r_bipush (x := 122) dX6_isLetter_7 rfl ?_
  refine r_icmp_gt (tgt := 16) dX6_isLetter_9 rfl (fun h2 => ?_) (fun h2 => ?_)
  · refine r_iconst (x := 0) dX6_isLetter_16 rfl ?_
    exact r_iret (ty := .boolean) dX6_isLetter_17 rfl rfl rfl
  refine r_iconst (x := 1) dX6_isLetter_12 rfl ?_
  refine r_goto (tgt := 17) dX6_isLetter_13 rfl ?_
  exact r_iret (ty := .boolean) dX6_isLetter_17 rfl rfl rfl

theorem dX6_stepWord_0 : decode cX6_stepWord 0 = .ok (.aload_n 0, 1) := by decide +kernel
theorem dX6_stepWord_1 : decode cX6_stepWord 1 = .ok (.lconst 0, 1) := by decide +kernel
theorem dX6_stepWord_2 : decode cX6_stepWord 2 = .ok (.putfield 62, 3) := by decide +kernel
theorem dX6_stepWord_5 : decode cX6_stepWord 5 = .ok (.aload_n 0, 1) := by decide +kernel
theorem dX6_stepWord_6 : decode cX6_stepWord 6 = .ok (.getfield 22, 3) := by decide +kernel
theorem dX6_stepWord_9 : decode cX6_stepWord 9 = .ok (.aload_n 0, 1) := by decide +kernel
theorem dX6_stepWord_10 : decode cX6_stepWord 10 = .ok (.getfield 9, 3) := by decide +kernel
theorem dX6_stepWord_13 : decode cX6_stepWord 13 = .ok (.getfield 28, 3) := by decide +kernel
theorem dX6_stepWord_16 : decode cX6_stepWord 16 = .ok (.if_icmp .ge 63, 3) := by decide +kernel
theorem dX6_stepWord_19 : decode cX6_stepWord 19 = .ok (.aload_n 0, 1) := by decide +kernel
theorem dX6_stepWord_20 : decode cX6_stepWord 20 = .ok (.getfield 9, 3) := by decide +kernel
theorem dX6_stepWord_23 : decode cX6_stepWord 23 = .ok (.aload_n 0, 1) := by decide +kernel
theorem dX6_stepWord_24 : decode cX6_stepWord 24 = .ok (.getfield 22, 3) := by decide +kernel
theorem dX6_stepWord_27 : decode cX6_stepWord 27 = .ok (.invokevirtual 33, 3) := by decide +kernel
theorem dX6_stepWord_30 : decode cX6_stepWord 30 = .ok (.invokestatic 47, 3) := by decide +kernel
theorem dX6_stepWord_33 : decode cX6_stepWord 33 = .ok (.ifCond .eq 46, 3) := by decide +kernel
theorem dX6_stepWord_36 : decode cX6_stepWord 36 = .ok (.aload_n 0, 1) := by decide +kernel
theorem dX6_stepWord_37 : decode cX6_stepWord 37 = .ok (.aload_n 0, 1) := by decide +kernel
theorem dX6_stepWord_38 : decode cX6_stepWord 38 = .ok (.getfield 62, 3) := by decide +kernel
theorem dX6_stepWord_41 : decode cX6_stepWord 41 = .ok (.ldc2_w 66, 3) := by decide +kernel
theorem dX6_stepWord_44 : decode cX6_stepWord 44 = .ok (.lmul, 1) := by decide +kernel
theorem dX6_stepWord_45 : decode cX6_stepWord 45 = .ok (.aload_n 0, 1) := by decide +kernel
theorem dX6_stepWord_46 : decode cX6_stepWord 46 = .ok (.getfield 9, 3) := by decide +kernel
theorem dX6_stepWord_49 : decode cX6_stepWord 49 = .ok (.aload_n 0, 1) := by decide +kernel
theorem dX6_stepWord_50 : decode cX6_stepWord 50 = .ok (.getfield 22, 3) := by decide +kernel
theorem dX6_stepWord_53 : decode cX6_stepWord 53 = .ok (.invokevirtual 33, 3) := by decide +kernel
theorem dX6_stepWord_56 : decode cX6_stepWord 56 = .ok (.bipush 97, 2) := by decide +kernel
theorem dX6_stepWord_58 : decode cX6_stepWord 58 = .ok (.isub, 1) := by decide +kernel
theorem dX6_stepWord_59 : decode cX6_stepWord 59 = .ok (.iconst 1, 1) := by decide +kernel
theorem dX6_stepWord_60 : decode cX6_stepWord 60 = .ok (.iadd, 1) := by decide +kernel
theorem dX6_stepWord_61 : decode cX6_stepWord 61 = .ok (.i2l, 1) := by decide +kernel
theorem dX6_stepWord_62 : decode cX6_stepWord 62 = .ok (.ladd, 1) := by decide +kernel
theorem dX6_stepWord_63 : decode cX6_stepWord 63 = .ok (.putfield 62, 3) := by decide +kernel
theorem dX6_stepWord_66 : decode cX6_stepWord 66 = .ok (.aload_n 0, 1) := by decide +kernel
theorem dX6_stepWord_67 : decode cX6_stepWord 67 = .ok (.dup, 1) := by decide +kernel
theorem dX6_stepWord_68 : decode cX6_stepWord 68 = .ok (.getfield 22, 3) := by decide +kernel
theorem dX6_stepWord_71 : decode cX6_stepWord 71 = .ok (.iconst 1, 1) := by decide +kernel
theorem dX6_stepWord_72 : decode cX6_stepWord 72 = .ok (.iadd, 1) := by decide +kernel
theorem dX6_stepWord_73 : decode cX6_stepWord 73 = .ok (.putfield 22, 3) := by decide +kernel
theorem dX6_stepWord_76 : decode cX6_stepWord 76 = .ok (.goto (-71), 3) := by decide +kernel
theorem dX6_stepWord_79 : decode cX6_stepWord 79 = .ok (.aload_n 0, 1) := by decide +kernel
theorem dX6_stepWord_80 : decode cX6_stepWord 80 = .ok (.aload_n 0, 1) := by decide +kernel
theorem dX6_stepWord_81 : decode cX6_stepWord 81 = .ok (.getfield 22, 3) := by decide +kernel
theorem dX6_stepWord_84 : decode cX6_stepWord 84 = .ok (.aload_n 0, 1) := by decide +kernel
theorem dX6_stepWord_85 : decode cX6_stepWord 85 = .ok (.getfield 41, 3) := by decide +kernel
theorem dX6_stepWord_88 : decode cX6_stepWord 88 = .ok (.isub, 1) := by decide +kernel
theorem dX6_stepWord_89 : decode cX6_stepWord 89 = .ok (.bipush 8, 2) := by decide +kernel
theorem dX6_stepWord_91 : decode cX6_stepWord 91 = .ok (.if_icmp .le 7, 3) := by decide +kernel
theorem dX6_stepWord_94 : decode cX6_stepWord 94 = .ok (.iconst 1, 1) := by decide +kernel
theorem dX6_stepWord_95 : decode cX6_stepWord 95 = .ok (.goto 4, 3) := by decide +kernel
theorem dX6_stepWord_98 : decode cX6_stepWord 98 = .ok (.iconst 2, 1) := by decide +kernel
theorem dX6_stepWord_99 : decode cX6_stepWord 99 = .ok (.putfield 44, 3) := by decide +kernel
theorem dX6_stepWord_102 : decode cX6_stepWord 102 = .ok (.return_, 1) := by decide +kernel
abbrev mi_X6_stepWord : MI := (zTX, RX6, yX6_stepWord, cX6_stepWord, 1, none, 3)
theorem cal_X6_stepWord : zCalV mi_X6_stepWord 0 := ⟨⟨zTB_i3 2 (by decide +kernel), zTB_i3 1 (by decide +kernel), zTB_i0 1 (by decide +kernel), zTB_i1 6 (by decide +kernel)⟩, ⟨by decide, by decide, by decide +kernel⟩, by decide⟩
noncomputable def X6_stepWord_L1 : Nat → Mem → Option (Mem)
  | 0, _ => none
  | n + 1, M =>
    if (M.1 1 1) ≤ (M.1 16 8) then
      some M
    else
    if (X6_isLetter (X10_byteAt (M.1 16 8) M)) = true then
      lt_ (uL M 16 2 (((M.2 16 2) * 27) + ((((X10_byteAt (M.1 16 8) M) - 97) + 1).toInt64))) fun M4 =>
      lt_ (uI M4 16 8 ((M4.1 16 8) + 1)) fun M5 =>
      X6_stepWord_L1 n M5
    else
    some M
noncomputable def X6_stepWord (M : Mem) : Option (Mem) :=
  lt_ (uL M 16 2 0) fun M1 =>
  b1_ (α := Mem) (X6_stepWord_L1 zFU M1) fun M6 =>
  l1_ (α := Int32) (
    if ((M6.1 16 8) - (M6.1 16 7)) ≤ 8 then
      2
    else
    1) fun y8 =>
  lt_ (uI M6 16 1 y8) fun M9 =>
  some M9
set_option maxRecDepth 100000 in
set_option maxHeartbeats 4000000 in
theorem X6_stepWord_L1_ok (G : Gh) {dn : Option (Mem) → Option (Option Value × Mem)} (hs : dn none = none) (hx : ∀ (M6 : Mem), Wr G mi_X6_stepWord dn 79 [some (.ref (G.2.2.2 (16)))] [] M6 (some M6)) : ∀ (n : Nat)  (M : Mem), Wr G mi_X6_stepWord dn 5 [some (.ref (G.2.2.2 (16)))] [] M (X6_stepWord_L1 n M) := by
  intro n
  induction n with
  | zero => intro M; exact r_none (by exact hs)
  | succ n ih =>
    intro M
    rw [X6_stepWord_L1]
    refine r_aload_n dX6_stepWord_5 rfl ?_
    refine r_getf (v := .int (M.1 16 8)) dX6_stepWord_6 fX_16_8 kX6 (by decide) lkf_X6_22 rfl ?_
    refine r_aload_n dX6_stepWord_9 rfl ?_
    refine r_getf (v := .ref (G.2.2.2 (1))) dX6_stepWord_10 fX_16_0 kX6 (by decide) lkf_X6_9 rfl ?_
    refine r_getf (v := .int (M.1 1 1)) dX6_stepWord_13 fX_1_1 kX10 (by decide) lkf_X6_28 rfl ?_
    refine r_icmp_ge (tgt := 79) dX6_stepWord_16 rfl (fun h2 => ?_) (fun h2 => ?_)
    · exact r_lk (hx M) (And.intro rfl True.intro)
    refine r_aload_n dX6_stepWord_19 rfl ?_
    refine r_getf (v := .ref (G.2.2.2 (1))) dX6_stepWord_20 fX_16_0 kX6 (by decide) lkf_X6_9 rfl ?_
    refine r_aload_n dX6_stepWord_23 rfl ?_
    refine r_getf (v := .int (M.1 16 8)) dX6_stepWord_24 fX_16_8 kX6 (by decide) lkf_X6_22 rfl ?_
    refine c_I (inv_V (mi := mi_X6_stepWord) (b := 1) (rest := []) (X10_byteAt_ok G (M.1 16 8) M) rfl (by decide) dX6_stepWord_27 lkm_X6_33 cal_X10_byteAt cX_1 rfl rfl (Nat.le_of_ble_eq_true rfl) rfl) ?_
    refine c_Z (inv_S (mi := mi_X6_stepWord) (rest := []) (X6_isLetter_ok G (X10_byteAt (M.1 16 8) M) M) rfl (by decide) dX6_stepWord_30 lkm_X6_47 cal_X6_isLetter rfl (Nat.le_of_ble_eq_true rfl) rfl) ?_
    refine r_ifz_eq (tgt := 79) dX6_stepWord_33 rfl (fun h3 => ?_) (fun h3 => ?_)
    · refine r_aload_n dX6_stepWord_36 rfl ?_
      refine r_aload_n dX6_stepWord_37 rfl ?_
      refine r_getf (v := .long (M.2 16 2)) dX6_stepWord_38 fX_16_2 kX6 (by decide) lkf_X6_62 rfl ?_
      refine r_ldc2 (x := 27) dX6_stepWord_41 lkc_X6_66 ?_
      refine r_lmul dX6_stepWord_44 ?_
      refine r_aload_n dX6_stepWord_45 rfl ?_
      refine r_getf (v := .ref (G.2.2.2 (1))) dX6_stepWord_46 fX_16_0 kX6 (by decide) lkf_X6_9 rfl ?_
      refine r_aload_n dX6_stepWord_49 rfl ?_
      refine r_getf (v := .int (M.1 16 8)) dX6_stepWord_50 fX_16_8 kX6 (by decide) lkf_X6_22 rfl ?_
      refine c_I (inv_V (mi := mi_X6_stepWord) (b := 1) (rest := [.long ((M.2 16 2) * 27), .ref (G.2.2.2 (16))]) (X10_byteAt_ok G (M.1 16 8) M) rfl (by decide) dX6_stepWord_53 lkm_X6_33 cal_X10_byteAt cX_1 rfl rfl (Nat.le_of_ble_eq_true rfl) rfl) ?_
      refine r_bipush (x := 97) dX6_stepWord_56 rfl ?_
      refine r_isub dX6_stepWord_58 ?_
      refine r_iconst (x := 1) dX6_stepWord_59 rfl ?_
      refine r_iadd dX6_stepWord_60 ?_
      refine r_i2l dX6_stepWord_61 ?_
      refine r_ladd dX6_stepWord_62 ?_
      refine r_putL dX6_stepWord_63 fX_16_2 kX6 (by decide) rfl rfl lkf_X6_62 (fun M4 => ?_)
      refine r_aload_n dX6_stepWord_66 rfl ?_
      refine r_dup dX6_stepWord_67 rfl ?_
      refine r_getf (v := .int (M4.1 16 8)) dX6_stepWord_68 fX_16_8 kX6 (by decide) lkf_X6_22 rfl ?_
      refine r_iconst (x := 1) dX6_stepWord_71 rfl ?_
      refine r_iadd dX6_stepWord_72 ?_
      refine r_putI dX6_stepWord_73 fX_16_8 kX6 (by decide) rfl rfl lkf_X6_22 (fun _ => rfl) rfl rfl (fun M5 => ?_)
      refine r_goto (tgt := 5) dX6_stepWord_76 rfl ?_
      exact r_lk (ih M5) (And.intro rfl True.intro)
    exact r_lk (hx M) (And.intro rfl True.intro)
set_option maxRecDepth 100000 in
set_option maxHeartbeats 4000000 in
theorem X6_stepWord_ok (G : Gh) (M : Mem) : Mt G mi_X6_stepWord [.ref (G.2.2.2 (16))] M ((dO dV) (X6_stepWord M)) := by
  refine Mt_of (lv := [some (.ref (G.2.2.2 (16)))]) (by decide) rfl (Nat.le_of_ble_eq_true rfl) rfl ?_
  unfold X6_stepWord
  refine r_aload_n dX6_stepWord_0 rfl ?_
  refine r_lconst (x := 0) dX6_stepWord_1 rfl ?_
  refine r_putL dX6_stepWord_2 fX_16_2 kX6 (by decide) rfl rfl lkf_X6_62 (fun M1 => ?_)
  refine r_jB1 (j := 79) (lvj := fun M6 => [some (.ref (G.2.2.2 (16)))]) (stj := fun M6 => []) (Mj := fun M6 => M6) (fun M6 => ?_) (fun hj79 => ?_)
  · refine r_aload_n dX6_stepWord_79 rfl ?_
    refine r_aload_n dX6_stepWord_80 rfl ?_
    refine r_getf (v := .int (M6.1 16 8)) dX6_stepWord_81 fX_16_8 kX6 (by decide) lkf_X6_22 rfl ?_
    refine r_aload_n dX6_stepWord_84 rfl ?_
    refine r_getf (v := .int (M6.1 16 7)) dX6_stepWord_85 fX_16_7 kX6 (by decide) lkf_X6_41 rfl ?_
    refine r_isub dX6_stepWord_88 ?_
    refine r_bipush (x := 8) dX6_stepWord_89 rfl ?_
    refine r_jL1 (j := 99) (lvj := fun y8 => [none]) (stj := fun y8 => [.int y8, .ref (G.2.2.2 (16))]) (Mj := fun y8 => M6) (fun y8 => ?_) (fun hj99 => ?_)
    · refine r_putI dX6_stepWord_99 fX_16_1 kX6 (by decide) rfl rfl lkf_X6_44 (fun _ => rfl) rfl rfl (fun M9 => ?_)
      exact r_vret dX6_stepWord_102 rfl rfl
    refine r_icmp_le (tgt := 98) dX6_stepWord_91 rfl (fun h7 => ?_) (fun h7 => ?_)
    · refine r_iconst (x := 2) dX6_stepWord_98 rfl ?_
      exact r_lk (hj99 2) True.intro
    refine r_iconst (x := 1) dX6_stepWord_94 rfl ?_
    refine r_goto (tgt := 99) dX6_stepWord_95 rfl ?_
    exact r_lk (hj99 1) True.intro
  exact r_lk (X6_stepWord_L1_ok G rfl hj79 zFU M1) (And.intro rfl True.intro)

theorem dX6_isDigit_0 : decode cX6_isDigit 0 = .ok (.iload_n 0, 1) := by decide +kernel
theorem dX6_isDigit_1 : decode cX6_isDigit 1 = .ok (.bipush 48, 2) := by decide +kernel
theorem dX6_isDigit_3 : decode cX6_isDigit 3 = .ok (.if_icmp .lt 13, 3) := by decide +kernel
theorem dX6_isDigit_6 : decode cX6_isDigit 6 = .ok (.iload_n 0, 1) := by decide +kernel
theorem dX6_isDigit_7 : decode cX6_isDigit 7 = .ok (.bipush 57, 2) := by decide +kernel
theorem dX6_isDigit_9 : decode cX6_isDigit 9 = .ok (.if_icmp .gt 7, 3) := by decide +kernel
theorem dX6_isDigit_12 : decode cX6_isDigit 12 = .ok (.iconst 1, 1) := by decide +kernel
theorem dX6_isDigit_13 : decode cX6_isDigit 13 = .ok (.goto 4, 3) := by decide +kernel
theorem dX6_isDigit_16 : decode cX6_isDigit 16 = .ok (.iconst 0, 1) := by decide +kernel
theorem dX6_isDigit_17 : decode cX6_isDigit 17 = .ok (.ireturn, 1) := by decide +kernel
abbrev mi_X6_isDigit : MI := (zTX, RX6, yX6_isDigit, cX6_isDigit, 1, (some .boolean), 2)
theorem cal_X6_isDigit : zCalS mi_X6_isDigit 1 := ⟨⟨zTB_i3 6 (by decide +kernel), zTB_i3 5 (by decide +kernel), zTB_i1 6 (by decide +kernel)⟩, ⟨by decide, by decide, by decide +kernel⟩, by decide⟩
noncomputable def X6_isDigit (x0 : Int32) : Bool :=
  if x0 < 48 then
    false
  else
  if 57 < x0 then
    false
  else
  true
set_option maxRecDepth 100000 in
set_option maxHeartbeats 4000000 in
theorem X6_isDigit_ok (G : Gh) (x0 : Int32) (M : Mem) : Mt G mi_X6_isDigit [.int x0] M ((dZ M) (X6_isDigit x0)) := by
  refine Mt_of (lv := [some (.int x0)]) (by decide) rfl (Nat.le_of_ble_eq_true rfl) rfl ?_
  unfold X6_isDigit
  refine r_iload_n dX6_isDigit_0 rfl ?_
  refine r_bipush (x := 48) dX6_isDigit_1 rfl ?_
  refine r_icmp_lt (tgt := 16) dX6_isDigit_3 rfl (fun h1 => ?_) (fun h1 => ?_)
  · refine r_iconst (x := 0) dX6_isDigit_16 rfl ?_
    exact r_iret (ty := .boolean) dX6_isDigit_17 rfl rfl rfl
  refine r_iload_n dX6_isDigit_6 rfl ?_
  refine r_bipush (x := 57) dX6_isDigit_7 rfl ?_
  refine r_icmp_gt (tgt := 16) dX6_isDigit_9 rfl (fun h2 => ?_) (fun h2 => ?_)
  · refine r_iconst (x := 0) dX6_isDigit_16 rfl ?_
    exact r_iret (ty := .boolean) dX6_isDigit_17 rfl rfl rfl
  refine r_iconst (x := 1) dX6_isDigit_12 rfl ?_
  refine r_goto (tgt := 17) dX6_isDigit_13 rfl ?_
  exact r_iret (ty := .boolean) dX6_isDigit_17 rfl rfl rfl

theorem dX6_stepNumber_0 : decode cX6_stepNumber 0 = .ok (.aload_n 0, 1) := by decide +kernel
theorem dX6_stepNumber_1 : decode cX6_stepNumber 1 = .ok (.iconst 0, 1) := by decide +kernel
theorem dX6_stepNumber_2 : decode cX6_stepNumber 2 = .ok (.putfield 68, 3) := by decide +kernel
theorem dX6_stepNumber_5 : decode cX6_stepNumber 5 = .ok (.aload_n 0, 1) := by decide +kernel
theorem dX6_stepNumber_6 : decode cX6_stepNumber 6 = .ok (.getfield 22, 3) := by decide +kernel
theorem dX6_stepNumber_9 : decode cX6_stepNumber 9 = .ok (.aload_n 0, 1) := by decide +kernel
theorem dX6_stepNumber_10 : decode cX6_stepNumber 10 = .ok (.getfield 9, 3) := by decide +kernel
theorem dX6_stepNumber_13 : decode cX6_stepNumber 13 = .ok (.getfield 28, 3) := by decide +kernel
theorem dX6_stepNumber_16 : decode cX6_stepNumber 16 = .ok (.if_icmp .ge 59, 3) := by decide +kernel
theorem dX6_stepNumber_19 : decode cX6_stepNumber 19 = .ok (.aload_n 0, 1) := by decide +kernel
theorem dX6_stepNumber_20 : decode cX6_stepNumber 20 = .ok (.getfield 9, 3) := by decide +kernel
theorem dX6_stepNumber_23 : decode cX6_stepNumber 23 = .ok (.aload_n 0, 1) := by decide +kernel
theorem dX6_stepNumber_24 : decode cX6_stepNumber 24 = .ok (.getfield 22, 3) := by decide +kernel
theorem dX6_stepNumber_27 : decode cX6_stepNumber 27 = .ok (.invokevirtual 33, 3) := by decide +kernel
theorem dX6_stepNumber_30 : decode cX6_stepNumber 30 = .ok (.invokestatic 53, 3) := by decide +kernel
theorem dX6_stepNumber_33 : decode cX6_stepNumber 33 = .ok (.ifCond .eq 42, 3) := by decide +kernel
theorem dX6_stepNumber_36 : decode cX6_stepNumber 36 = .ok (.aload_n 0, 1) := by decide +kernel
theorem dX6_stepNumber_37 : decode cX6_stepNumber 37 = .ok (.aload_n 0, 1) := by decide +kernel
theorem dX6_stepNumber_38 : decode cX6_stepNumber 38 = .ok (.getfield 68, 3) := by decide +kernel
theorem dX6_stepNumber_41 : decode cX6_stepNumber 41 = .ok (.bipush 10, 2) := by decide +kernel
theorem dX6_stepNumber_43 : decode cX6_stepNumber 43 = .ok (.imul, 1) := by decide +kernel
theorem dX6_stepNumber_44 : decode cX6_stepNumber 44 = .ok (.aload_n 0, 1) := by decide +kernel
theorem dX6_stepNumber_45 : decode cX6_stepNumber 45 = .ok (.getfield 9, 3) := by decide +kernel
theorem dX6_stepNumber_48 : decode cX6_stepNumber 48 = .ok (.aload_n 0, 1) := by decide +kernel
theorem dX6_stepNumber_49 : decode cX6_stepNumber 49 = .ok (.getfield 22, 3) := by decide +kernel
theorem dX6_stepNumber_52 : decode cX6_stepNumber 52 = .ok (.invokevirtual 33, 3) := by decide +kernel
theorem dX6_stepNumber_55 : decode cX6_stepNumber 55 = .ok (.bipush 48, 2) := by decide +kernel
theorem dX6_stepNumber_57 : decode cX6_stepNumber 57 = .ok (.isub, 1) := by decide +kernel
theorem dX6_stepNumber_58 : decode cX6_stepNumber 58 = .ok (.iadd, 1) := by decide +kernel
theorem dX6_stepNumber_59 : decode cX6_stepNumber 59 = .ok (.putfield 68, 3) := by decide +kernel
theorem dX6_stepNumber_62 : decode cX6_stepNumber 62 = .ok (.aload_n 0, 1) := by decide +kernel
theorem dX6_stepNumber_63 : decode cX6_stepNumber 63 = .ok (.dup, 1) := by decide +kernel
theorem dX6_stepNumber_64 : decode cX6_stepNumber 64 = .ok (.getfield 22, 3) := by decide +kernel
theorem dX6_stepNumber_67 : decode cX6_stepNumber 67 = .ok (.iconst 1, 1) := by decide +kernel
theorem dX6_stepNumber_68 : decode cX6_stepNumber 68 = .ok (.iadd, 1) := by decide +kernel
theorem dX6_stepNumber_69 : decode cX6_stepNumber 69 = .ok (.putfield 22, 3) := by decide +kernel
theorem dX6_stepNumber_72 : decode cX6_stepNumber 72 = .ok (.goto (-67), 3) := by decide +kernel
theorem dX6_stepNumber_75 : decode cX6_stepNumber 75 = .ok (.aload_n 0, 1) := by decide +kernel
theorem dX6_stepNumber_76 : decode cX6_stepNumber 76 = .ok (.getfield 22, 3) := by decide +kernel
theorem dX6_stepNumber_79 : decode cX6_stepNumber 79 = .ok (.aload_n 0, 1) := by decide +kernel
theorem dX6_stepNumber_80 : decode cX6_stepNumber 80 = .ok (.getfield 41, 3) := by decide +kernel
theorem dX6_stepNumber_83 : decode cX6_stepNumber 83 = .ok (.isub, 1) := by decide +kernel
theorem dX6_stepNumber_84 : decode cX6_stepNumber 84 = .ok (.iconst 4, 1) := by decide +kernel
theorem dX6_stepNumber_85 : decode cX6_stepNumber 85 = .ok (.if_icmp .le 7, 3) := by decide +kernel
theorem dX6_stepNumber_88 : decode cX6_stepNumber 88 = .ok (.iconst 1, 1) := by decide +kernel
theorem dX6_stepNumber_89 : decode cX6_stepNumber 89 = .ok (.goto 4, 3) := by decide +kernel
theorem dX6_stepNumber_92 : decode cX6_stepNumber 92 = .ok (.iconst 0, 1) := by decide +kernel
theorem dX6_stepNumber_93 : decode cX6_stepNumber 93 = .ok (.istore_n 1, 1) := by decide +kernel
theorem dX6_stepNumber_94 : decode cX6_stepNumber 94 = .ok (.aload_n 0, 1) := by decide +kernel
theorem dX6_stepNumber_95 : decode cX6_stepNumber 95 = .ok (.iload_n 1, 1) := by decide +kernel
theorem dX6_stepNumber_96 : decode cX6_stepNumber 96 = .ok (.ifCond .ne 20, 3) := by decide +kernel
theorem dX6_stepNumber_99 : decode cX6_stepNumber 99 = .ok (.aload_n 0, 1) := by decide +kernel
theorem dX6_stepNumber_100 : decode cX6_stepNumber 100 = .ok (.getfield 9, 3) := by decide +kernel
theorem dX6_stepNumber_103 : decode cX6_stepNumber 103 = .ok (.aload_n 0, 1) := by decide +kernel
theorem dX6_stepNumber_104 : decode cX6_stepNumber 104 = .ok (.getfield 22, 3) := by decide +kernel
theorem dX6_stepNumber_107 : decode cX6_stepNumber 107 = .ok (.invokevirtual 33, 3) := by decide +kernel
theorem dX6_stepNumber_110 : decode cX6_stepNumber 110 = .ok (.invokestatic 47, 3) := by decide +kernel
theorem dX6_stepNumber_113 : decode cX6_stepNumber 113 = .ok (.ifCond .eq 7, 3) := by decide +kernel
theorem dX6_stepNumber_116 : decode cX6_stepNumber 116 = .ok (.iconst 1, 1) := by decide +kernel
theorem dX6_stepNumber_117 : decode cX6_stepNumber 117 = .ok (.goto 4, 3) := by decide +kernel
theorem dX6_stepNumber_120 : decode cX6_stepNumber 120 = .ok (.iconst 3, 1) := by decide +kernel
theorem dX6_stepNumber_121 : decode cX6_stepNumber 121 = .ok (.putfield 44, 3) := by decide +kernel
theorem dX6_stepNumber_124 : decode cX6_stepNumber 124 = .ok (.return_, 1) := by decide +kernel
abbrev mi_X6_stepNumber : MI := (zTX, RX6, yX6_stepNumber, cX6_stepNumber, 2, none, 3)
theorem cal_X6_stepNumber : zCalV mi_X6_stepNumber 0 := ⟨⟨zTB_i3 10 (by decide +kernel), zTB_i3 9 (by decide +kernel), zTB_i0 2 (by decide +kernel), zTB_i1 6 (by decide +kernel)⟩, ⟨by decide, by decide, by decide +kernel⟩, by decide⟩
noncomputable def X6_stepNumber_L1 : Nat → Mem → Option (Mem)
  | 0, _ => none
  | n + 1, M =>
    if (M.1 1 1) ≤ (M.1 16 8) then
      some M
    else
    if (X6_isDigit (X10_byteAt (M.1 16 8) M)) = true then
      lt_ (uI M 16 3 (((M.1 16 3) * 10) + ((X10_byteAt (M.1 16 8) M) - 48))) fun M4 =>
      lt_ (uI M4 16 8 ((M4.1 16 8) + 1)) fun M5 =>
      X6_stepNumber_L1 n M5
    else
    some M
noncomputable def X6_stepNumber (M : Mem) : Option (Mem) :=
  lt_ (uI M 16 3 0) fun M1 =>
  b1_ (α := Mem) (X6_stepNumber_L1 zFU M1) fun M6 =>
  l1_ (α := Int32) (
    if ((M6.1 16 8) - (M6.1 16 7)) ≤ 4 then
      0
    else
    1) fun y8 =>
  l1_ (α := Int32) (
    l1_ (α := Bool) (
      if y8 = 0 then
        if (X6_isLetter (X10_byteAt (M6.1 16 8) M6)) = true then
          true
        else
        false
      else
      true) fun t11 =>
    if t11 = true then
      1
    else
    3) fun y13 =>
  lt_ (uI M6 16 1 y13) fun M14 =>
  some M14
set_option maxRecDepth 100000 in
set_option maxHeartbeats 4000000 in
theorem X6_stepNumber_L1_ok (G : Gh) {dn : Option (Mem) → Option (Option Value × Mem)} (hs : dn none = none) (hx : ∀ (M6 : Mem), Wr G mi_X6_stepNumber dn 75 [some (.ref (G.2.2.2 (16))), none] [] M6 (some M6)) : ∀ (n : Nat)  (M : Mem), Wr G mi_X6_stepNumber dn 5 [some (.ref (G.2.2.2 (16))), none] [] M (X6_stepNumber_L1 n M) := by
  intro n
  induction n with
  | zero => intro M; exact r_none (by exact hs)
  | succ n ih =>
    intro M
    rw [X6_stepNumber_L1]
    refine r_aload_n dX6_stepNumber_5 rfl ?_
    refine r_getf (v := .int (M.1 16 8)) dX6_stepNumber_6 fX_16_8 kX6 (by decide) lkf_X6_22 rfl ?_
    refine r_aload_n dX6_stepNumber_9 rfl ?_
    refine r_getf (v := .ref (G.2.2.2 (1))) dX6_stepNumber_10 fX_16_0 kX6 (by decide) lkf_X6_9 rfl ?_
    refine r_getf (v := .int (M.1 1 1)) dX6_stepNumber_13 fX_1_1 kX10 (by decide) lkf_X6_28 rfl ?_
    refine r_icmp_ge (tgt := 75) dX6_stepNumber_16 rfl (fun h2 => ?_) (fun h2 => ?_)
    · exact r_lk (hx M) (And.intro rfl True.intro)
    refine r_aload_n dX6_stepNumber_19 rfl ?_
    refine r_getf (v := .ref (G.2.2.2 (1))) dX6_stepNumber_20 fX_16_0 kX6 (by decide) lkf_X6_9 rfl ?_
    refine r_aload_n dX6_stepNumber_23 rfl ?_
    refine r_getf (v := .int (M.1 16 8)) dX6_stepNumber_24 fX_16_8 kX6 (by decide) lkf_X6_22 rfl ?_
    refine c_I (inv_V (mi := mi_X6_stepNumber) (b := 1) (rest := []) (X10_byteAt_ok G (M.1 16 8) M) rfl (by decide) dX6_stepNumber_27 lkm_X6_33 cal_X10_byteAt cX_1 rfl rfl (Nat.le_of_ble_eq_true rfl) rfl) ?_
    refine c_Z (inv_S (mi := mi_X6_stepNumber) (rest := []) (X6_isDigit_ok G (X10_byteAt (M.1 16 8) M) M) rfl (by decide) dX6_stepNumber_30 lkm_X6_53 cal_X6_isDigit rfl (Nat.le_of_ble_eq_true rfl) rfl) ?_
    refine r_ifz_eq (tgt := 75) dX6_stepNumber_33 rfl (fun h3 => ?_) (fun h3 => ?_)
    · refine r_aload_n dX6_stepNumber_36 rfl ?_
      refine r_aload_n dX6_stepNumber_37 rfl ?_
      refine r_getf (v := .int (M.1 16 3)) dX6_stepNumber_38 fX_16_3 kX6 (by decide) lkf_X6_68 rfl ?_
      refine r_bipush (x := 10) dX6_stepNumber_41 rfl ?_
      refine r_imul dX6_stepNumber_43 ?_
      refine r_aload_n dX6_stepNumber_44 rfl ?_
      refine r_getf (v := .ref (G.2.2.2 (1))) dX6_stepNumber_45 fX_16_0 kX6 (by decide) lkf_X6_9 rfl ?_
      refine r_aload_n dX6_stepNumber_48 rfl ?_
      refine r_getf (v := .int (M.1 16 8)) dX6_stepNumber_49 fX_16_8 kX6 (by decide) lkf_X6_22 rfl ?_
      refine c_I (inv_V (mi := mi_X6_stepNumber) (b := 1) (rest := [.int ((M.1 16 3) * 10), .ref (G.2.2.2 (16))]) (X10_byteAt_ok G (M.1 16 8) M) rfl (by decide) dX6_stepNumber_52 lkm_X6_33 cal_X10_byteAt cX_1 rfl rfl (Nat.le_of_ble_eq_true rfl) rfl) ?_
      refine r_bipush (x := 48) dX6_stepNumber_55 rfl ?_
      refine r_isub dX6_stepNumber_57 ?_
      refine r_iadd dX6_stepNumber_58 ?_
      refine r_putI dX6_stepNumber_59 fX_16_3 kX6 (by decide) rfl rfl lkf_X6_68 (fun _ => rfl) rfl rfl (fun M4 => ?_)
      refine r_aload_n dX6_stepNumber_62 rfl ?_
      refine r_dup dX6_stepNumber_63 rfl ?_
      refine r_getf (v := .int (M4.1 16 8)) dX6_stepNumber_64 fX_16_8 kX6 (by decide) lkf_X6_22 rfl ?_
      refine r_iconst (x := 1) dX6_stepNumber_67 rfl ?_
      refine r_iadd dX6_stepNumber_68 ?_
      refine r_putI dX6_stepNumber_69 fX_16_8 kX6 (by decide) rfl rfl lkf_X6_22 (fun _ => rfl) rfl rfl (fun M5 => ?_)
      refine r_goto (tgt := 5) dX6_stepNumber_72 rfl ?_
      exact r_lk (ih M5) (And.intro rfl True.intro)
    exact r_lk (hx M) (And.intro rfl True.intro)
set_option maxRecDepth 100000 in
set_option maxHeartbeats 4000000 in
theorem X6_stepNumber_ok (G : Gh) (M : Mem) : Mt G mi_X6_stepNumber [.ref (G.2.2.2 (16))] M ((dO dV) (X6_stepNumber M)) := by
  refine Mt_of (lv := [some (.ref (G.2.2.2 (16)))]) (by decide) rfl (Nat.le_of_ble_eq_true rfl) rfl ?_
  refine r_le (lv' := [some (.ref (G.2.2.2 (16))), none]) (And.intro rfl True.intro) ?_
  unfold X6_stepNumber
  refine r_aload_n dX6_stepNumber_0 rfl ?_
  refine r_iconst (x := 0) dX6_stepNumber_1 rfl ?_
  refine r_putI dX6_stepNumber_2 fX_16_3 kX6 (by decide) rfl rfl lkf_X6_68 (fun _ => rfl) rfl rfl (fun M1 => ?_)
  refine r_jB1 (j := 75) (lvj := fun M6 => [some (.ref (G.2.2.2 (16))), none]) (stj := fun M6 => []) (Mj := fun M6 => M6) (fun M6 => ?_) (fun hj75 => ?_)
  · refine r_aload_n dX6_stepNumber_75 rfl ?_
    refine r_getf (v := .int (M6.1 16 8)) dX6_stepNumber_76 fX_16_8 kX6 (by decide) lkf_X6_22 rfl ?_
    refine r_aload_n dX6_stepNumber_79 rfl ?_
    refine r_getf (v := .int (M6.1 16 7)) dX6_stepNumber_80 fX_16_7 kX6 (by decide) lkf_X6_41 rfl ?_
    refine r_isub dX6_stepNumber_83 ?_
    refine r_iconst (x := 4) dX6_stepNumber_84 rfl ?_
    refine r_jL1 (j := 93) (lvj := fun y8 => [some (.ref (G.2.2.2 (16))), none]) (stj := fun y8 => [.int y8]) (Mj := fun y8 => M6) (fun y8 => ?_) (fun hj93 => ?_)
    · refine r_istore_n (lv' := [some (.ref (G.2.2.2 (16))), some (.int y8)]) dX6_stepNumber_93 (Nat.le_of_ble_eq_true rfl) rfl rfl ?_
      refine r_aload_n dX6_stepNumber_94 rfl ?_
      refine r_iload_n dX6_stepNumber_95 rfl ?_
      refine r_jL1 (j := 121) (lvj := fun y13 => [none, none]) (stj := fun y13 => [.int y13, .ref (G.2.2.2 (16))]) (Mj := fun y13 => M6) (fun y13 => ?_) (fun hj121 => ?_)
      · refine r_putI dX6_stepNumber_121 fX_16_1 kX6 (by decide) rfl rfl lkf_X6_44 (fun _ => rfl) rfl rfl (fun M14 => ?_)
        exact r_vret dX6_stepNumber_124 rfl rfl
      refine r_cL (jX := 116) (jY := 120) (lvX := [none, none]) (lvY := [none, none]) (stX := [.ref (G.2.2.2 (16))]) (M1 := M6) (fun h12 => ?_) (fun h12 => ?_) (fun hX116 hY120 => ?_)
      · refine r_eq (if_pos rfl) ?_
        refine r_iconst (x := 1) dX6_stepNumber_116 rfl ?_
        refine r_goto (tgt := 121) dX6_stepNumber_117 rfl ?_
        exact r_lk (hj121 1) True.intro
      · refine r_eq (if_neg (by decide)) ?_
        refine r_iconst (x := 3) dX6_stepNumber_120 rfl ?_
        exact r_lk (hj121 3) True.intro
      refine r_if_ne (tgt := 116) dX6_stepNumber_96 rfl (fun h9 => ?_) (fun h9 => ?_)
      · refine r_aload_n dX6_stepNumber_99 rfl ?_
        refine r_getf (v := .ref (G.2.2.2 (1))) dX6_stepNumber_100 fX_16_0 kX6 (by decide) lkf_X6_9 rfl ?_
        refine r_aload_n dX6_stepNumber_103 rfl ?_
        refine r_getf (v := .int (M6.1 16 8)) dX6_stepNumber_104 fX_16_8 kX6 (by decide) lkf_X6_22 rfl ?_
        refine c_I (inv_V (mi := mi_X6_stepNumber) (b := 1) (rest := [.ref (G.2.2.2 (16))]) (X10_byteAt_ok G (M6.1 16 8) M6) rfl (by decide) dX6_stepNumber_107 lkm_X6_33 cal_X10_byteAt cX_1 rfl rfl (Nat.le_of_ble_eq_true rfl) rfl) ?_
        refine c_Z (inv_S (mi := mi_X6_stepNumber) (rest := [.ref (G.2.2.2 (16))]) (X6_isLetter_ok G (X10_byteAt (M6.1 16 8) M6) M6) rfl (by decide) dX6_stepNumber_110 lkm_X6_47 cal_X6_isLetter rfl (Nat.le_of_ble_eq_true rfl) rfl) ?_
        refine r_ifz_eq (tgt := 120) dX6_stepNumber_113 rfl (fun h10 => ?_) (fun h10 => ?_)
        · exact r_lk hX116 True.intro
        exact r_lk hY120 True.intro
      exact r_lk hX116 True.intro
    refine r_icmp_le (tgt := 92) dX6_stepNumber_85 rfl (fun h7 => ?_) (fun h7 => ?_)
    · refine r_iconst (x := 0) dX6_stepNumber_92 rfl ?_
      exact r_lk (hj93 0) (And.intro rfl True.intro)
    refine r_iconst (x := 1) dX6_stepNumber_88 rfl ?_
    refine r_goto (tgt := 93) dX6_stepNumber_89 rfl ?_
    exact r_lk (hj93 1) (And.intro rfl True.intro)
  exact r_lk (X6_stepNumber_L1_ok G rfl hj75 zFU M1) (And.intro rfl True.intro)

theorem dX6_isSign_0 : decode cX6_isSign 0 = .ok (.iload_n 0, 1) := by decide +kernel
theorem dX6_isSign_1 : decode cX6_isSign 1 = .ok (.tableswitch 121 37 62 #[119, 121, 121, 119, 119, 119, 119, 121, 119, 121, 119, 121, 121, 121, 121, 121, 121, 121, 121, 121, 121, 121, 119, 119, 119, 119], 119) := by decide +kernel
theorem dX6_isSign_120 : decode cX6_isSign 120 = .ok (.iconst 1, 1) := by decide +kernel
theorem dX6_isSign_121 : decode cX6_isSign 121 = .ok (.ireturn, 1) := by decide +kernel
theorem dX6_isSign_122 : decode cX6_isSign 122 = .ok (.iconst 0, 1) := by decide +kernel
theorem dX6_isSign_123 : decode cX6_isSign 123 = .ok (.ireturn, 1) := by decide +kernel
abbrev mi_X6_isSign : MI := (zTX, RX6, yX6_isSign, cX6_isSign, 1, (some .boolean), 2)
theorem cal_X6_isSign : zCalS mi_X6_isSign 1 := ⟨⟨zTB_i3 13 (by decide +kernel), zTB_i3 12 (by decide +kernel), zTB_i1 6 (by decide +kernel)⟩, ⟨by decide, by decide, by decide +kernel⟩, by decide⟩
noncomputable def X6_isSign (x0 : Int32) : Bool :=
  if x0 = 37 then
    true
  else
  if x0 = 40 then
    true
  else
  if x0 = 41 then
    true
  else
  if x0 = 42 then
    true
  else
  if x0 = 43 then
    true
  else
  if x0 = 45 then
    true
  else
  if x0 = 47 then
    true
  else
  if x0 = 59 then
    true
  else
  if x0 = 60 then
    true
  else
  if x0 = 61 then
    true
  else
  if x0 = 62 then
    true
  else
  false
set_option maxRecDepth 100000 in
set_option maxHeartbeats 4000000 in
theorem X6_isSign_ok (G : Gh) (x0 : Int32) (M : Mem) : Mt G mi_X6_isSign [.int x0] M ((dZ M) (X6_isSign x0)) := by
  refine Mt_of (lv := [some (.int x0)]) (by decide) rfl (Nat.le_of_ble_eq_true rfl) rfl ?_
  unfold X6_isSign
  refine r_iload_n dX6_isSign_0 rfl ?_
  refine r_ite (fun h1 => ?_) (fun h1 => ?_)
  · refine r_tswIn (c := 37) (tgt := 120) dX6_isSign_1 h1 (by decide) (by decide) rfl rfl ?_
    refine r_iconst (x := 1) dX6_isSign_120 rfl ?_
    exact r_iret (ty := .boolean) dX6_isSign_121 rfl rfl rfl
  refine r_ite (fun h2 => ?_) (fun h2 => ?_)
  · refine r_tswIn (c := 40) (tgt := 120) dX6_isSign_1 h2 (by decide) (by decide) rfl rfl ?_
    refine r_iconst (x := 1) dX6_isSign_120 rfl ?_
    exact r_iret (ty := .boolean) dX6_isSign_121 rfl rfl rfl
  refine r_ite (fun h3 => ?_) (fun h3 => ?_)
  · refine r_tswIn (c := 41) (tgt := 120) dX6_isSign_1 h3 (by decide) (by decide) rfl rfl ?_
    refine r_iconst (x := 1) dX6_isSign_120 rfl ?_
    exact r_iret (ty := .boolean) dX6_isSign_121 rfl rfl rfl
  refine r_ite (fun h4 => ?_) (fun h4 => ?_)
  · refine r_tswIn (c := 42) (tgt := 120) dX6_isSign_1 h4 (by decide) (by decide) rfl rfl ?_
    refine r_iconst (x := 1) dX6_isSign_120 rfl ?_
    exact r_iret (ty := .boolean) dX6_isSign_121 rfl rfl rfl
  refine r_ite (fun h5 => ?_) (fun h5 => ?_)
  · refine r_tswIn (c := 43) (tgt := 120) dX6_isSign_1 h5 (by decide) (by decide) rfl rfl ?_
    refine r_iconst (x := 1) dX6_isSign_120 rfl ?_
    exact r_iret (ty := .boolean) dX6_isSign_121 rfl rfl rfl
  refine r_ite (fun h6 => ?_) (fun h6 => ?_)
  · refine r_tswIn (c := 45) (tgt := 120) dX6_isSign_1 h6 (by decide) (by decide) rfl rfl ?_
    refine r_iconst (x := 1) dX6_isSign_120 rfl ?_
    exact r_iret (ty := .boolean) dX6_isSign_121 rfl rfl rfl
  refine r_ite (fun h7 => ?_) (fun h7 => ?_)
  · refine r_tswIn (c := 47) (tgt := 120) dX6_isSign_1 h7 (by decide) (by decide) rfl rfl ?_
    refine r_iconst (x := 1) dX6_isSign_120 rfl ?_
    exact r_iret (ty := .boolean) dX6_isSign_121 rfl rfl rfl
  refine r_ite (fun h8 => ?_) (fun h8 => ?_)
  · refine r_tswIn (c := 59) (tgt := 120) dX6_isSign_1 h8 (by decide) (by decide) rfl rfl ?_
    refine r_iconst (x := 1) dX6_isSign_120 rfl ?_
    exact r_iret (ty := .boolean) dX6_isSign_121 rfl rfl rfl
  refine r_ite (fun h9 => ?_) (fun h9 => ?_)
  · refine r_tswIn (c := 60) (tgt := 120) dX6_isSign_1 h9 (by decide) (by decide) rfl rfl ?_
    refine r_iconst (x := 1) dX6_isSign_120 rfl ?_
    exact r_iret (ty := .boolean) dX6_isSign_121 rfl rfl rfl
  refine r_ite (fun h10 => ?_) (fun h10 => ?_)
  · refine r_tswIn (c := 61) (tgt := 120) dX6_isSign_1 h10 (by decide) (by decide) rfl rfl ?_
    refine r_iconst (x := 1) dX6_isSign_120 rfl ?_
    exact r_iret (ty := .boolean) dX6_isSign_121 rfl rfl rfl
  refine r_ite (fun h11 => ?_) (fun h11 => ?_)
  · refine r_tswIn (c := 62) (tgt := 120) dX6_isSign_1 h11 (by decide) (by decide) rfl rfl ?_
    refine r_iconst (x := 1) dX6_isSign_120 rfl ?_
    exact r_iret (ty := .boolean) dX6_isSign_121 rfl rfl rfl
  refine r_tswD (cs := [37, 40, 41, 42, 43, 45, 47, 59, 60, 61, 62]) (tgt := 122) dX6_isSign_1 (by decide) (fun c hc => by simp only [List.mem_cons, List.not_mem_nil, or_false] at hc; rcases hc with rfl | rfl | rfl | rfl | rfl | rfl | rfl | rfl | rfl | rfl | rfl <;> assumption) rfl ?_
  refine r_iconst (x := 0) dX6_isSign_122 rfl ?_
  exact r_iret (ty := .boolean) dX6_isSign_123 rfl rfl rfl

theorem dX6_step_0 : decode cX6_step 0 = .ok (.aload_n 0, 1) := by decide +kernel
theorem dX6_step_1 : decode cX6_step 1 = .ok (.getfield 22, 3) := by decide +kernel
theorem dX6_step_4 : decode cX6_step 4 = .ok (.aload_n 0, 1) := by decide +kernel
theorem dX6_step_5 : decode cX6_step 5 = .ok (.getfield 9, 3) := by decide +kernel
theorem dX6_step_8 : decode cX6_step 8 = .ok (.getfield 28, 3) := by decide +kernel
theorem dX6_step_11 : decode cX6_step 11 = .ok (.if_icmp .ge 33, 3) := by decide +kernel
theorem dX6_step_14 : decode cX6_step 14 = .ok (.aload_n 0, 1) := by decide +kernel
theorem dX6_step_15 : decode cX6_step 15 = .ok (.getfield 9, 3) := by decide +kernel
theorem dX6_step_18 : decode cX6_step 18 = .ok (.aload_n 0, 1) := by decide +kernel
theorem dX6_step_19 : decode cX6_step 19 = .ok (.getfield 22, 3) := by decide +kernel
theorem dX6_step_22 : decode cX6_step 22 = .ok (.invokevirtual 33, 3) := by decide +kernel
theorem dX6_step_25 : decode cX6_step 25 = .ok (.invokestatic 37, 3) := by decide +kernel
theorem dX6_step_28 : decode cX6_step 28 = .ok (.ifCond .eq 16, 3) := by decide +kernel
theorem dX6_step_31 : decode cX6_step 31 = .ok (.aload_n 0, 1) := by decide +kernel
theorem dX6_step_32 : decode cX6_step 32 = .ok (.dup, 1) := by decide +kernel
theorem dX6_step_33 : decode cX6_step 33 = .ok (.getfield 22, 3) := by decide +kernel
theorem dX6_step_36 : decode cX6_step 36 = .ok (.iconst 1, 1) := by decide +kernel
theorem dX6_step_37 : decode cX6_step 37 = .ok (.iadd, 1) := by decide +kernel
theorem dX6_step_38 : decode cX6_step 38 = .ok (.putfield 22, 3) := by decide +kernel
theorem dX6_step_41 : decode cX6_step 41 = .ok (.goto (-41), 3) := by decide +kernel
theorem dX6_step_44 : decode cX6_step 44 = .ok (.aload_n 0, 1) := by decide +kernel
theorem dX6_step_45 : decode cX6_step 45 = .ok (.aload_n 0, 1) := by decide +kernel
theorem dX6_step_46 : decode cX6_step 46 = .ok (.getfield 22, 3) := by decide +kernel
theorem dX6_step_49 : decode cX6_step 49 = .ok (.putfield 41, 3) := by decide +kernel
theorem dX6_step_52 : decode cX6_step 52 = .ok (.aload_n 0, 1) := by decide +kernel
theorem dX6_step_53 : decode cX6_step 53 = .ok (.getfield 9, 3) := by decide +kernel
theorem dX6_step_56 : decode cX6_step 56 = .ok (.aload_n 0, 1) := by decide +kernel
theorem dX6_step_57 : decode cX6_step 57 = .ok (.getfield 22, 3) := by decide +kernel
theorem dX6_step_60 : decode cX6_step 60 = .ok (.invokevirtual 33, 3) := by decide +kernel
theorem dX6_step_63 : decode cX6_step 63 = .ok (.istore_n 1, 1) := by decide +kernel
theorem dX6_step_64 : decode cX6_step 64 = .ok (.iload_n 1, 1) := by decide +kernel
theorem dX6_step_65 : decode cX6_step 65 = .ok (.iconst (-1), 1) := by decide +kernel
theorem dX6_step_66 : decode cX6_step 66 = .ok (.if_icmp .ne 11, 3) := by decide +kernel
theorem dX6_step_69 : decode cX6_step 69 = .ok (.aload_n 0, 1) := by decide +kernel
theorem dX6_step_70 : decode cX6_step 70 = .ok (.iconst 0, 1) := by decide +kernel
theorem dX6_step_71 : decode cX6_step 71 = .ok (.putfield 44, 3) := by decide +kernel
theorem dX6_step_74 : decode cX6_step 74 = .ok (.goto 57, 3) := by decide +kernel
theorem dX6_step_77 : decode cX6_step 77 = .ok (.iload_n 1, 1) := by decide +kernel
theorem dX6_step_78 : decode cX6_step 78 = .ok (.invokestatic 47, 3) := by decide +kernel
theorem dX6_step_81 : decode cX6_step 81 = .ok (.ifCond .eq 10, 3) := by decide +kernel
theorem dX6_step_84 : decode cX6_step 84 = .ok (.aload_n 0, 1) := by decide +kernel
theorem dX6_step_85 : decode cX6_step 85 = .ok (.invokevirtual 50, 3) := by decide +kernel
theorem dX6_step_88 : decode cX6_step 88 = .ok (.goto 43, 3) := by decide +kernel
theorem dX6_step_91 : decode cX6_step 91 = .ok (.iload_n 1, 1) := by decide +kernel
theorem dX6_step_92 : decode cX6_step 92 = .ok (.invokestatic 53, 3) := by decide +kernel
theorem dX6_step_95 : decode cX6_step 95 = .ok (.ifCond .eq 10, 3) := by decide +kernel
theorem dX6_step_98 : decode cX6_step 98 = .ok (.aload_n 0, 1) := by decide +kernel
theorem dX6_step_99 : decode cX6_step 99 = .ok (.invokevirtual 56, 3) := by decide +kernel
theorem dX6_step_102 : decode cX6_step 102 = .ok (.goto 29, 3) := by decide +kernel
theorem dX6_step_105 : decode cX6_step 105 = .ok (.aload_n 0, 1) := by decide +kernel
theorem dX6_step_106 : decode cX6_step 106 = .ok (.iload_n 1, 1) := by decide +kernel
theorem dX6_step_107 : decode cX6_step 107 = .ok (.invokestatic 59, 3) := by decide +kernel
theorem dX6_step_110 : decode cX6_step 110 = .ok (.ifCond .eq 7, 3) := by decide +kernel
theorem dX6_step_113 : decode cX6_step 113 = .ok (.iload_n 1, 1) := by decide +kernel
theorem dX6_step_114 : decode cX6_step 114 = .ok (.goto 4, 3) := by decide +kernel
theorem dX6_step_117 : decode cX6_step 117 = .ok (.iconst 1, 1) := by decide +kernel
theorem dX6_step_118 : decode cX6_step 118 = .ok (.putfield 44, 3) := by decide +kernel
theorem dX6_step_121 : decode cX6_step 121 = .ok (.aload_n 0, 1) := by decide +kernel
theorem dX6_step_122 : decode cX6_step 122 = .ok (.dup, 1) := by decide +kernel
theorem dX6_step_123 : decode cX6_step 123 = .ok (.getfield 22, 3) := by decide +kernel
theorem dX6_step_126 : decode cX6_step 126 = .ok (.iconst 1, 1) := by decide +kernel
theorem dX6_step_127 : decode cX6_step 127 = .ok (.iadd, 1) := by decide +kernel
theorem dX6_step_128 : decode cX6_step 128 = .ok (.putfield 22, 3) := by decide +kernel
theorem dX6_step_131 : decode cX6_step 131 = .ok (.return_, 1) := by decide +kernel
abbrev mi_X6_step : MI := (zTX, RX6, yX6_step, cX6_step, 2, none, 4)
theorem cal_X6_step : zCalV mi_X6_step 0 := ⟨⟨zTB_i2 228 (by decide +kernel), zTB_i2 226 (by decide +kernel), zTB_i2 227 (by decide +kernel), zTB_i1 6 (by decide +kernel)⟩, ⟨by decide, by decide, by decide +kernel⟩, by decide⟩
noncomputable def X6_step_L1 : Nat → Mem → Option (Mem)
  | 0, _ => none
  | n + 1, M =>
    if (M.1 1 1) ≤ (M.1 16 8) then
      some M
    else
    if (X6_isBlank (X10_byteAt (M.1 16 8) M)) = true then
      lt_ (uI M 16 8 ((M.1 16 8) + 1)) fun M3 =>
      X6_step_L1 n M3
    else
    some M
noncomputable def X6_step (M : Mem) : Option (Mem) :=
  b1_ (α := Mem) (X6_step_L1 zFU M) fun M4 =>
  lt_ (uI M4 16 7 (M4.1 16 8)) fun M5 =>
  lt_ (α := Int32) ((X10_byteAt (M5.1 16 8) M5)) fun y6 =>
  if y6 = (-1) then
    lt_ (uI M5 16 1 0) fun M16 =>
    some M16
  else
  if (X6_isLetter y6) = true then
    bo_ (X6_stepWord M5) fun M15 =>
    some M15
  else
  if (X6_isDigit y6) = true then
    bo_ (X6_stepNumber M5) fun M14 =>
    some M14
  else
  l1_ (α := Int32) (
    if (X6_isSign y6) = true then
      y6
    else
    1) fun y11 =>
  lt_ (uI M5 16 1 y11) fun M12 =>
  lt_ (uI M12 16 8 ((M12.1 16 8) + 1)) fun M13 =>
  some M13
set_option maxRecDepth 100000 in
set_option maxHeartbeats 4000000 in
theorem X6_step_L1_ok (G : Gh) {dn : Option (Mem) → Option (Option Value × Mem)} (hs : dn none = none) (hx : ∀ (M4 : Mem), Wr G mi_X6_step dn 44 [some (.ref (G.2.2.2 (16))), none] [] M4 (some M4)) : ∀ (n : Nat)  (M : Mem), Wr G mi_X6_step dn 0 [some (.ref (G.2.2.2 (16))), none] [] M (X6_step_L1 n M) := by
  intro n
  induction n with
  | zero => intro M; exact r_none (by exact hs)
  | succ n ih =>
    intro M
    rw [X6_step_L1]
    refine r_aload_n dX6_step_0 rfl ?_
    refine r_getf (v := .int (M.1 16 8)) dX6_step_1 fX_16_8 kX6 (by decide) lkf_X6_22 rfl ?_
    refine r_aload_n dX6_step_4 rfl ?_
    refine r_getf (v := .ref (G.2.2.2 (1))) dX6_step_5 fX_16_0 kX6 (by decide) lkf_X6_9 rfl ?_
    refine r_getf (v := .int (M.1 1 1)) dX6_step_8 fX_1_1 kX10 (by decide) lkf_X6_28 rfl ?_
    refine r_icmp_ge (tgt := 44) dX6_step_11 rfl (fun h1 => ?_) (fun h1 => ?_)
    · exact r_lk (hx M) (And.intro rfl True.intro)
    refine r_aload_n dX6_step_14 rfl ?_
    refine r_getf (v := .ref (G.2.2.2 (1))) dX6_step_15 fX_16_0 kX6 (by decide) lkf_X6_9 rfl ?_
    refine r_aload_n dX6_step_18 rfl ?_
    refine r_getf (v := .int (M.1 16 8)) dX6_step_19 fX_16_8 kX6 (by decide) lkf_X6_22 rfl ?_
    refine c_I (inv_V (mi := mi_X6_step) (b := 1) (rest := []) (X10_byteAt_ok G (M.1 16 8) M) rfl (by decide) dX6_step_22 lkm_X6_33 cal_X10_byteAt cX_1 rfl rfl (Nat.le_of_ble_eq_true rfl) rfl) ?_
    refine c_Z (inv_S (mi := mi_X6_step) (rest := []) (X6_isBlank_ok G (X10_byteAt (M.1 16 8) M) M) rfl (by decide) dX6_step_25 lkm_X6_37 cal_X6_isBlank rfl (Nat.le_of_ble_eq_true rfl) rfl) ?_
    refine r_ifz_eq (tgt := 44) dX6_step_28 rfl (fun h2 => ?_) (fun h2 => ?_)
    · refine r_aload_n dX6_step_31 rfl ?_
      refine r_dup dX6_step_32 rfl ?_
      refine r_getf (v := .int (M.1 16 8)) dX6_step_33 fX_16_8 kX6 (by decide) lkf_X6_22 rfl ?_
      refine r_iconst (x := 1) dX6_step_36 rfl ?_
      refine r_iadd dX6_step_37 ?_
      refine r_putI dX6_step_38 fX_16_8 kX6 (by decide) rfl rfl lkf_X6_22 (fun _ => rfl) rfl rfl (fun M3 => ?_)
      refine r_goto (tgt := 0) dX6_step_41 rfl ?_
      exact r_lk (ih M3) (And.intro rfl True.intro)
    exact r_lk (hx M) (And.intro rfl True.intro)
set_option maxRecDepth 100000 in
set_option maxHeartbeats 4000000 in
theorem X6_step_ok (G : Gh) (M : Mem) : Mt G mi_X6_step [.ref (G.2.2.2 (16))] M ((dO dV) (X6_step M)) := by
  refine Mt_of (lv := [some (.ref (G.2.2.2 (16)))]) (by decide) rfl (Nat.le_of_ble_eq_true rfl) rfl ?_
  refine r_le (lv' := [some (.ref (G.2.2.2 (16))), none]) (And.intro rfl True.intro) ?_
  unfold X6_step
  refine r_jB1 (j := 44) (lvj := fun M4 => [some (.ref (G.2.2.2 (16))), none]) (stj := fun M4 => []) (Mj := fun M4 => M4) (fun M4 => ?_) (fun hj44 => ?_)
  · refine r_aload_n dX6_step_44 rfl ?_
    refine r_aload_n dX6_step_45 rfl ?_
    refine r_getf (v := .int (M4.1 16 8)) dX6_step_46 fX_16_8 kX6 (by decide) lkf_X6_22 rfl ?_
    refine r_putI dX6_step_49 fX_16_7 kX6 (by decide) rfl rfl lkf_X6_41 (fun _ => rfl) rfl rfl (fun M5 => ?_)
    refine r_aload_n dX6_step_52 rfl ?_
    refine r_getf (v := .ref (G.2.2.2 (1))) dX6_step_53 fX_16_0 kX6 (by decide) lkf_X6_9 rfl ?_
    refine r_aload_n dX6_step_56 rfl ?_
    refine r_getf (v := .int (M5.1 16 8)) dX6_step_57 fX_16_8 kX6 (by decide) lkf_X6_22 rfl ?_
    refine c_I (inv_V (mi := mi_X6_step) (b := 1) (rest := []) (X10_byteAt_ok G (M5.1 16 8) M5) rfl (by decide) dX6_step_60 lkm_X6_33 cal_X10_byteAt cX_1 rfl rfl (Nat.le_of_ble_eq_true rfl) rfl) ?_
    refine r_letI (fun y6 => ?_)
    refine r_istore_n (lv' := [some (.ref (G.2.2.2 (16))), some (.int y6)]) dX6_step_63 (Nat.le_of_ble_eq_true rfl) rfl rfl ?_
    refine r_iload_n dX6_step_64 rfl ?_
    refine r_iconst (x := (-1)) dX6_step_65 rfl ?_
    refine r_icmp_ne (tgt := 77) dX6_step_66 rfl (fun h7 => ?_) (fun h7 => ?_)
    · refine r_aload_n dX6_step_69 rfl ?_
      refine r_iconst (x := 0) dX6_step_70 rfl ?_
      refine r_putI dX6_step_71 fX_16_1 kX6 (by decide) rfl rfl lkf_X6_44 (fun _ => rfl) rfl rfl (fun M16 => ?_)
      refine r_goto (tgt := 131) dX6_step_74 rfl ?_
      exact r_vret dX6_step_131 rfl rfl
    refine r_iload_n dX6_step_77 rfl ?_
    refine c_Z (inv_S (mi := mi_X6_step) (rest := []) (X6_isLetter_ok G y6 M5) rfl (by decide) dX6_step_78 lkm_X6_47 cal_X6_isLetter rfl (Nat.le_of_ble_eq_true rfl) rfl) ?_
    refine r_ifz_eq (tgt := 91) dX6_step_81 rfl (fun h8 => ?_) (fun h8 => ?_)
    · refine r_aload_n dX6_step_84 rfl ?_
      refine c_OV rfl (inv_V (mi := mi_X6_step) (b := 16) (rest := []) (X6_stepWord_ok G M5) rfl (by decide) dX6_step_85 lkm_X6_50 cal_X6_stepWord cX_16 rfl rfl (Nat.le_of_ble_eq_true rfl) rfl) (fun M15 => ?_)
      refine r_goto (tgt := 131) dX6_step_88 rfl ?_
      exact r_vret dX6_step_131 rfl rfl
    refine r_iload_n dX6_step_91 rfl ?_
    refine c_Z (inv_S (mi := mi_X6_step) (rest := []) (X6_isDigit_ok G y6 M5) rfl (by decide) dX6_step_92 lkm_X6_53 cal_X6_isDigit rfl (Nat.le_of_ble_eq_true rfl) rfl) ?_
    refine r_ifz_eq (tgt := 105) dX6_step_95 rfl (fun h9 => ?_) (fun h9 => ?_)
    · refine r_aload_n dX6_step_98 rfl ?_
      refine c_OV rfl (inv_V (mi := mi_X6_step) (b := 16) (rest := []) (X6_stepNumber_ok G M5) rfl (by decide) dX6_step_99 lkm_X6_56 cal_X6_stepNumber cX_16 rfl rfl (Nat.le_of_ble_eq_true rfl) rfl) (fun M14 => ?_)
      refine r_goto (tgt := 131) dX6_step_102 rfl ?_
      exact r_vret dX6_step_131 rfl rfl
    refine r_aload_n dX6_step_105 rfl ?_
    refine r_iload_n dX6_step_106 rfl ?_
    refine c_Z (inv_S (mi := mi_X6_step) (rest := [.ref (G.2.2.2 (16))]) (X6_isSign_ok G y6 M5) rfl (by decide) dX6_step_107 lkm_X6_59 cal_X6_isSign rfl (Nat.le_of_ble_eq_true rfl) rfl) ?_
    refine r_jL1 (j := 118) (lvj := fun y11 => [some (.ref (G.2.2.2 (16))), none]) (stj := fun y11 => [.int y11, .ref (G.2.2.2 (16))]) (Mj := fun y11 => M5) (fun y11 => ?_) (fun hj118 => ?_)
    · refine r_putI dX6_step_118 fX_16_1 kX6 (by decide) rfl rfl lkf_X6_44 (fun _ => rfl) rfl rfl (fun M12 => ?_)
      refine r_aload_n dX6_step_121 rfl ?_
      refine r_dup dX6_step_122 rfl ?_
      refine r_getf (v := .int (M12.1 16 8)) dX6_step_123 fX_16_8 kX6 (by decide) lkf_X6_22 rfl ?_
      refine r_iconst (x := 1) dX6_step_126 rfl ?_
      refine r_iadd dX6_step_127 ?_
      refine r_putI dX6_step_128 fX_16_8 kX6 (by decide) rfl rfl lkf_X6_22 (fun _ => rfl) rfl rfl (fun M13 => ?_)
      exact r_vret dX6_step_131 rfl rfl
    refine r_ifz_eq (tgt := 117) dX6_step_110 rfl (fun h10 => ?_) (fun h10 => ?_)
    · refine r_iload_n dX6_step_113 rfl ?_
      refine r_goto (tgt := 118) dX6_step_114 rfl ?_
      exact r_lk (hj118 y6) (And.intro rfl True.intro)
    refine r_iconst (x := 1) dX6_step_117 rfl ?_
    exact r_lk (hj118 1) (And.intro rfl True.intro)
  exact r_lk (X6_step_L1_ok G rfl hj44 zFU M) (And.intro rfl True.intro)

theorem dX6_begin_0 : decode cX6_begin 0 = .ok (.aload_n 0, 1) := by decide +kernel
theorem dX6_begin_1 : decode cX6_begin 1 = .ok (.iconst 0, 1) := by decide +kernel
theorem dX6_begin_2 : decode cX6_begin 2 = .ok (.putfield 19, 3) := by decide +kernel
theorem dX6_begin_5 : decode cX6_begin 5 = .ok (.aload_n 0, 1) := by decide +kernel
theorem dX6_begin_6 : decode cX6_begin 6 = .ok (.iconst (-1), 1) := by decide +kernel
theorem dX6_begin_7 : decode cX6_begin 7 = .ok (.putfield 15, 3) := by decide +kernel
theorem dX6_begin_10 : decode cX6_begin 10 = .ok (.aload_n 0, 1) := by decide +kernel
theorem dX6_begin_11 : decode cX6_begin 11 = .ok (.iconst 0, 1) := by decide +kernel
theorem dX6_begin_12 : decode cX6_begin 12 = .ok (.putfield 22, 3) := by decide +kernel
theorem dX6_begin_15 : decode cX6_begin 15 = .ok (.aload_n 0, 1) := by decide +kernel
theorem dX6_begin_16 : decode cX6_begin 16 = .ok (.invokevirtual 25, 3) := by decide +kernel
theorem dX6_begin_19 : decode cX6_begin 19 = .ok (.return_, 1) := by decide +kernel
abbrev mi_X6_begin : MI := (zTX, RX6, yX6_begin, cX6_begin, 1, none, 5)
theorem cal_X6_begin : zCalV mi_X6_begin 0 := ⟨⟨zTB_i2 224 (by decide +kernel), zTB_i2 222 (by decide +kernel), zTB_i2 223 (by decide +kernel), zTB_i1 6 (by decide +kernel)⟩, ⟨by decide, by decide, by decide +kernel⟩, by decide⟩
noncomputable def X6_begin (M : Mem) : Option (Mem) :=
  lt_ (uI M 16 5 0) fun M1 =>
  lt_ (uI M1 16 6 (-1)) fun M2 =>
  lt_ (uI M2 16 8 0) fun M3 =>
  bo_ (X6_step M3) fun M4 =>
  some M4
set_option maxRecDepth 100000 in
set_option maxHeartbeats 4000000 in
theorem X6_begin_ok (G : Gh) (M : Mem) : Mt G mi_X6_begin [.ref (G.2.2.2 (16))] M ((dO dV) (X6_begin M)) := by
  refine Mt_of (lv := [some (.ref (G.2.2.2 (16)))]) (by decide) rfl (Nat.le_of_ble_eq_true rfl) rfl ?_
  unfold X6_begin
  refine r_aload_n dX6_begin_0 rfl ?_
  refine r_iconst (x := 0) dX6_begin_1 rfl ?_
  refine r_putI dX6_begin_2 fX_16_5 kX6 (by decide) rfl rfl lkf_X6_19 (fun _ => rfl) rfl rfl (fun M1 => ?_)
  refine r_aload_n dX6_begin_5 rfl ?_
  refine r_iconst (x := (-1)) dX6_begin_6 rfl ?_
  refine r_putI dX6_begin_7 fX_16_6 kX6 (by decide) rfl rfl lkf_X6_15 (fun _ => rfl) rfl rfl (fun M2 => ?_)
  refine r_aload_n dX6_begin_10 rfl ?_
  refine r_iconst (x := 0) dX6_begin_11 rfl ?_
  refine r_putI dX6_begin_12 fX_16_8 kX6 (by decide) rfl rfl lkf_X6_22 (fun _ => rfl) rfl rfl (fun M3 => ?_)
  refine r_aload_n dX6_begin_15 rfl ?_
  refine c_OV rfl (inv_V (mi := mi_X6_begin) (b := 16) (rest := []) (X6_step_ok G M3) rfl (by decide) dX6_begin_16 lkm_X6_25 cal_X6_step cX_16 rfl rfl (Nat.le_of_ble_eq_true rfl) rfl) (fun M4 => ?_)
  exact r_vret dX6_begin_19 rfl rfl

theorem dX6_says_0 : decode cX6_says 0 = .ok (.aload_n 0, 1) := by decide +kernel
theorem dX6_says_1 : decode cX6_says 1 = .ok (.getfield 44, 3) := by decide +kernel
theorem dX6_says_4 : decode cX6_says 4 = .ok (.iconst 2, 1) := by decide +kernel
theorem dX6_says_5 : decode cX6_says 5 = .ok (.if_icmp .ne 19, 3) := by decide +kernel
theorem dX6_says_8 : decode cX6_says 8 = .ok (.aload_n 0, 1) := by decide +kernel
theorem dX6_says_9 : decode cX6_says 9 = .ok (.getfield 22, 3) := by decide +kernel
theorem dX6_says_12 : decode cX6_says 12 = .ok (.aload_n 0, 1) := by decide +kernel
theorem dX6_says_13 : decode cX6_says 13 = .ok (.getfield 41, 3) := by decide +kernel
theorem dX6_says_16 : decode cX6_says 16 = .ok (.isub, 1) := by decide +kernel
theorem dX6_says_17 : decode cX6_says 17 = .ok (.aload_n 1, 1) := by decide +kernel
theorem dX6_says_18 : decode cX6_says 18 = .ok (.invokevirtual 71, 3) := by decide +kernel
theorem dX6_says_21 : decode cX6_says 21 = .ok (.if_icmp .eq 5, 3) := by decide +kernel
theorem dX6_says_24 : decode cX6_says 24 = .ok (.iconst 0, 1) := by decide +kernel
theorem dX6_says_25 : decode cX6_says 25 = .ok (.ireturn, 1) := by decide +kernel
theorem dX6_says_26 : decode cX6_says 26 = .ok (.iconst 0, 1) := by decide +kernel
theorem dX6_says_27 : decode cX6_says 27 = .ok (.istore_n 2, 1) := by decide +kernel
theorem dX6_says_28 : decode cX6_says 28 = .ok (.iload_n 2, 1) := by decide +kernel
theorem dX6_says_29 : decode cX6_says 29 = .ok (.aload_n 1, 1) := by decide +kernel
theorem dX6_says_30 : decode cX6_says 30 = .ok (.invokevirtual 71, 3) := by decide +kernel
theorem dX6_says_33 : decode cX6_says 33 = .ok (.if_icmp .ge 32, 3) := by decide +kernel
theorem dX6_says_36 : decode cX6_says 36 = .ok (.aload_n 1, 1) := by decide +kernel
theorem dX6_says_37 : decode cX6_says 37 = .ok (.iload_n 2, 1) := by decide +kernel
theorem dX6_says_38 : decode cX6_says 38 = .ok (.invokevirtual 76, 3) := by decide +kernel
theorem dX6_says_41 : decode cX6_says 41 = .ok (.aload_n 0, 1) := by decide +kernel
theorem dX6_says_42 : decode cX6_says 42 = .ok (.getfield 9, 3) := by decide +kernel
theorem dX6_says_45 : decode cX6_says 45 = .ok (.aload_n 0, 1) := by decide +kernel
theorem dX6_says_46 : decode cX6_says 46 = .ok (.getfield 41, 3) := by decide +kernel
theorem dX6_says_49 : decode cX6_says 49 = .ok (.iload_n 2, 1) := by decide +kernel
theorem dX6_says_50 : decode cX6_says 50 = .ok (.iadd, 1) := by decide +kernel
theorem dX6_says_51 : decode cX6_says 51 = .ok (.invokevirtual 33, 3) := by decide +kernel
theorem dX6_says_54 : decode cX6_says 54 = .ok (.if_icmp .eq 5, 3) := by decide +kernel
theorem dX6_says_57 : decode cX6_says 57 = .ok (.iconst 0, 1) := by decide +kernel
theorem dX6_says_58 : decode cX6_says 58 = .ok (.ireturn, 1) := by decide +kernel
theorem dX6_says_59 : decode cX6_says 59 = .ok (.iinc 2 1, 3) := by decide +kernel
theorem dX6_says_62 : decode cX6_says 62 = .ok (.goto (-34), 3) := by decide +kernel
theorem dX6_says_65 : decode cX6_says 65 = .ok (.iconst 1, 1) := by decide +kernel
theorem dX6_says_66 : decode cX6_says 66 = .ok (.ireturn, 1) := by decide +kernel
abbrev mi_X6_says : MI := (zTX, RX6, yX6_says, cX6_says, 3, (some .boolean), 8)
theorem cal_X6_says : zCalV mi_X6_says 1 := ⟨⟨zTB_i3 22 (by decide +kernel), zTB_i3 20 (by decide +kernel), zTB_i3 21 (by decide +kernel), zTB_i1 6 (by decide +kernel)⟩, ⟨by decide, by decide, by decide +kernel⟩, by decide⟩
noncomputable def X6_says_L1 (w1 : Nat) (M : Mem) : Nat → Int32 → Option (Bool)
  | 0, _ => none
  | n + 1, c2 =>
    if (zSlen w1) ≤ c2 then
      some true
    else
    bo_ (zSch w1 c2) fun v4 =>
    if v4 = (X10_byteAt ((M.1 16 7) + c2) M) then
      X6_says_L1 w1 M n (c2 + 1)
    else
    some false
noncomputable def X6_says (w1 : Nat) (M : Mem) : Option (Bool) :=
  if (M.1 16 1) = 2 then
    if ((M.1 16 8) - (M.1 16 7)) = (zSlen w1) then
      X6_says_L1 w1 M zFU 0
    else
    some false
  else
  some false
set_option maxRecDepth 100000 in
set_option maxHeartbeats 4000000 in
theorem X6_says_L1_ok (G : Gh) {w1 : Nat} (hw1 : w1 < 43) (M : Mem) : ∀ (n : Nat) (c2 : Int32), Wr G mi_X6_says (dO (dZ M)) 28 [some (.ref (G.2.2.2 (16))), some (.ref (G.2.2.2 (1000 + w1))), some (.int c2)] [] M (X6_says_L1 w1 M n c2) := by
  intro n
  induction n with
  | zero => intro c2; exact r_none rfl
  | succ n ih =>
    intro c2
    rw [X6_says_L1]
    refine r_iload_n dX6_says_28 rfl ?_
    refine r_aload_n dX6_says_29 rfl ?_
    refine c_I (inv_VS (mi := mi_X6_says) (i := w1) (rest := [.int c2]) (zSlen_ok G hw1 M) rfl (by decide) dX6_says_30 lkm_X6_71 cal_J0_length_8abf5 hw1 rfl rfl (Nat.le_of_ble_eq_true rfl) rfl) ?_
    refine r_icmp_ge (tgt := 65) dX6_says_33 rfl (fun h3 => ?_) (fun h3 => ?_)
    · refine r_iconst (x := 1) dX6_says_65 rfl ?_
      exact r_iret (ty := .boolean) dX6_says_66 rfl rfl rfl
    refine r_aload_n dX6_says_36 rfl ?_
    refine r_iload_n dX6_says_37 rfl ?_
    refine c_OI rfl (inv_VS (mi := mi_X6_says) (i := w1) (rest := []) (zSch_ok G hw1 c2 M) rfl (by decide) dX6_says_38 lkm_X6_76 cal_J0_charAt_5068e hw1 rfl rfl (Nat.le_of_ble_eq_true rfl) rfl) (fun v4 => ?_)
    refine r_aload_n dX6_says_41 rfl ?_
    refine r_getf (v := .ref (G.2.2.2 (1))) dX6_says_42 fX_16_0 kX6 (by decide) lkf_X6_9 rfl ?_
    refine r_aload_n dX6_says_45 rfl ?_
    refine r_getf (v := .int (M.1 16 7)) dX6_says_46 fX_16_7 kX6 (by decide) lkf_X6_41 rfl ?_
    refine r_iload_n dX6_says_49 rfl ?_
    refine r_iadd dX6_says_50 ?_
    refine c_I (inv_V (mi := mi_X6_says) (b := 1) (rest := [.int v4]) (X10_byteAt_ok G ((M.1 16 7) + c2) M) rfl (by decide) dX6_says_51 lkm_X6_33 cal_X10_byteAt cX_1 rfl rfl (Nat.le_of_ble_eq_true rfl) rfl) ?_
    refine r_icmp_eq (tgt := 59) dX6_says_54 rfl (fun h5 => ?_) (fun h5 => ?_)
    · refine r_iinc (y := c2 + 1) (lv' := [some (.ref (G.2.2.2 (16))), some (.ref (G.2.2.2 (1000 + w1))), some (.int (c2 + 1))]) dX6_says_59 rfl rfl (Nat.le_of_ble_eq_true rfl) rfl rfl ?_
      refine r_goto (tgt := 28) dX6_says_62 rfl ?_
      exact r_lk (ih (c2 + 1)) (And.intro rfl (And.intro rfl (And.intro rfl True.intro)))
    refine r_iconst (x := 0) dX6_says_57 rfl ?_
    exact r_iret (ty := .boolean) dX6_says_58 rfl rfl rfl
set_option maxRecDepth 100000 in
set_option maxHeartbeats 4000000 in
theorem X6_says_ok (G : Gh) {w1 : Nat} (hw1 : w1 < 43) (M : Mem) : Mt G mi_X6_says [.ref (G.2.2.2 (16)), .ref (G.2.2.2 (1000 + w1))] M ((dO (dZ M)) (X6_says w1 M)) := by
  refine Mt_of (lv := [some (.ref (G.2.2.2 (16))), some (.ref (G.2.2.2 (1000 + w1)))]) (by decide) rfl (Nat.le_of_ble_eq_true rfl) rfl ?_
  refine r_le (lv' := [some (.ref (G.2.2.2 (16))), some (.ref (G.2.2.2 (1000 + w1))), none]) (And.intro rfl (And.intro rfl True.intro)) ?_
  unfold X6_says
  refine r_aload_n dX6_says_0 rfl ?_
  refine r_getf (v := .int (M.1 16 1)) dX6_says_1 fX_16_1 kX6 (by decide) lkf_X6_44 rfl ?_
  refine r_iconst (x := 2) dX6_says_4 rfl ?_
  refine r_icmp_ne (tgt := 24) dX6_says_5 rfl (fun h1 => ?_) (fun h1 => ?_)
  · refine r_aload_n dX6_says_8 rfl ?_
    refine r_getf (v := .int (M.1 16 8)) dX6_says_9 fX_16_8 kX6 (by decide) lkf_X6_22 rfl ?_
    refine r_aload_n dX6_says_12 rfl ?_
    refine r_getf (v := .int (M.1 16 7)) dX6_says_13 fX_16_7 kX6 (by decide) lkf_X6_41 rfl ?_
    refine r_isub dX6_says_16 ?_
    refine r_aload_n dX6_says_17 rfl ?_
    refine c_I (inv_VS (mi := mi_X6_says) (i := w1) (rest := [.int ((M.1 16 8) - (M.1 16 7))]) (zSlen_ok G hw1 M) rfl (by decide) dX6_says_18 lkm_X6_71 cal_J0_length_8abf5 hw1 rfl rfl (Nat.le_of_ble_eq_true rfl) rfl) ?_
    refine r_icmp_eq (tgt := 26) dX6_says_21 rfl (fun h2 => ?_) (fun h2 => ?_)
    · refine r_iconst (x := 0) dX6_says_26 rfl ?_
      refine r_istore_n (lv' := [some (.ref (G.2.2.2 (16))), some (.ref (G.2.2.2 (1000 + w1))), some (.int 0)]) dX6_says_27 (Nat.le_of_ble_eq_true rfl) rfl rfl ?_
      exact r_lk (X6_says_L1_ok G hw1 M zFU 0) (And.intro rfl (And.intro rfl (And.intro rfl True.intro)))
    refine r_iconst (x := 0) dX6_says_24 rfl ?_
    exact r_iret (ty := .boolean) dX6_says_25 rfl rfl rfl
  refine r_iconst (x := 0) dX6_says_24 rfl ?_
  exact r_iret (ty := .boolean) dX6_says_25 rfl rfl rfl

theorem dX6_refuse_0 : decode cX6_refuse 0 = .ok (.aload_n 0, 1) := by decide +kernel
theorem dX6_refuse_1 : decode cX6_refuse 1 = .ok (.aload_n 0, 1) := by decide +kernel
theorem dX6_refuse_2 : decode cX6_refuse 2 = .ok (.getfield 44, 3) := by decide +kernel
theorem dX6_refuse_5 : decode cX6_refuse 5 = .ok (.iconst 1, 1) := by decide +kernel
theorem dX6_refuse_6 : decode cX6_refuse 6 = .ok (.if_icmp .ne 7, 3) := by decide +kernel
theorem dX6_refuse_9 : decode cX6_refuse 9 = .ok (.iconst 1, 1) := by decide +kernel
theorem dX6_refuse_10 : decode cX6_refuse 10 = .ok (.goto 4, 3) := by decide +kernel
theorem dX6_refuse_13 : decode cX6_refuse 13 = .ok (.iload_n 1, 1) := by decide +kernel
theorem dX6_refuse_14 : decode cX6_refuse 14 = .ok (.putfield 19, 3) := by decide +kernel
theorem dX6_refuse_17 : decode cX6_refuse 17 = .ok (.aload_n 0, 1) := by decide +kernel
theorem dX6_refuse_18 : decode cX6_refuse 18 = .ok (.aload_n 0, 1) := by decide +kernel
theorem dX6_refuse_19 : decode cX6_refuse 19 = .ok (.getfield 41, 3) := by decide +kernel
theorem dX6_refuse_22 : decode cX6_refuse 22 = .ok (.putfield 15, 3) := by decide +kernel
theorem dX6_refuse_25 : decode cX6_refuse 25 = .ok (.iconst 0, 1) := by decide +kernel
theorem dX6_refuse_26 : decode cX6_refuse 26 = .ok (.ireturn, 1) := by decide +kernel
abbrev mi_X6_refuse : MI := (zTX, RX6, yX6_refuse, cX6_refuse, 2, (some .boolean), 2)
theorem cal_X6_refuse : zCalV mi_X6_refuse 1 := ⟨⟨zTB_i3 82 (by decide +kernel), zTB_i3 80 (by decide +kernel), zTB_i3 81 (by decide +kernel), zTB_i1 6 (by decide +kernel)⟩, ⟨by decide, by decide, by decide +kernel⟩, by decide⟩
noncomputable def X6_refuse (x1 : Int32) (M : Mem) : Bool × Mem :=
  l1_ (α := Int32) (
    if (M.1 16 1) = 1 then
      1
    else
    x1) fun y2 =>
  lt_ (uI M 16 5 y2) fun M3 =>
  lt_ (uI M3 16 6 (M3.1 16 7)) fun M4 =>
  (false, M4)
set_option maxRecDepth 100000 in
set_option maxHeartbeats 4000000 in
theorem X6_refuse_ok (G : Gh) (x1 : Int32) (M : Mem) : Mt G mi_X6_refuse [.ref (G.2.2.2 (16)), .int x1] M (dZM (X6_refuse x1 M)) := by
  refine Mt_of (lv := [some (.ref (G.2.2.2 (16))), some (.int x1)]) (by decide) rfl (Nat.le_of_ble_eq_true rfl) rfl ?_
  unfold X6_refuse
  refine r_aload_n dX6_refuse_0 rfl ?_
  refine r_aload_n dX6_refuse_1 rfl ?_
  refine r_getf (v := .int (M.1 16 1)) dX6_refuse_2 fX_16_1 kX6 (by decide) lkf_X6_44 rfl ?_
  refine r_iconst (x := 1) dX6_refuse_5 rfl ?_
  refine r_jL1 (j := 14) (lvj := fun y2 => [some (.ref (G.2.2.2 (16))), none]) (stj := fun y2 => [.int y2, .ref (G.2.2.2 (16))]) (Mj := fun y2 => M) (fun y2 => ?_) (fun hj14 => ?_)
  · refine r_putI dX6_refuse_14 fX_16_5 kX6 (by decide) rfl rfl lkf_X6_19 (fun _ => rfl) rfl rfl (fun M3 => ?_)
    refine r_aload_n dX6_refuse_17 rfl ?_
    refine r_aload_n dX6_refuse_18 rfl ?_
    refine r_getf (v := .int (M3.1 16 7)) dX6_refuse_19 fX_16_7 kX6 (by decide) lkf_X6_41 rfl ?_
    refine r_putI dX6_refuse_22 fX_16_6 kX6 (by decide) rfl rfl lkf_X6_15 (fun _ => rfl) rfl rfl (fun M4 => ?_)
    refine r_iconst (x := 0) dX6_refuse_25 rfl ?_
    exact r_iret (ty := .boolean) dX6_refuse_26 rfl rfl rfl
  refine r_icmp_ne (tgt := 13) dX6_refuse_6 rfl (fun h1 => ?_) (fun h1 => ?_)
  · refine r_iconst (x := 1) dX6_refuse_9 rfl ?_
    refine r_goto (tgt := 14) dX6_refuse_10 rfl ?_
    exact r_lk (hj14 1) (And.intro rfl True.intro)
  refine r_iload_n dX6_refuse_13 rfl ?_
  exact r_lk (hj14 x1) (And.intro rfl True.intro)

theorem dX4_begins_0 : decode cX4_begins 0 = .ok (.iload_n 1, 1) := by decide +kernel
theorem dX4_begins_1 : decode cX4_begins 1 = .ok (.ifCond .ne 12, 3) := by decide +kernel
theorem dX4_begins_4 : decode cX4_begins 4 = .ok (.aload_n 0, 1) := by decide +kernel
theorem dX4_begins_5 : decode cX4_begins 5 = .ok (.getfield 40, 3) := by decide +kernel
theorem dX4_begins_8 : decode cX4_begins 8 = .ok (.iconst 2, 1) := by decide +kernel
theorem dX4_begins_9 : decode cX4_begins 9 = .ok (.invokevirtual 149, 3) := by decide +kernel
theorem dX4_begins_12 : decode cX4_begins 12 = .ok (.ireturn, 1) := by decide +kernel
theorem dX4_begins_13 : decode cX4_begins 13 = .ok (.aload_n 0, 1) := by decide +kernel
theorem dX4_begins_14 : decode cX4_begins 14 = .ok (.getfield 40, 3) := by decide +kernel
theorem dX4_begins_17 : decode cX4_begins 17 = .ok (.invokevirtual 153, 3) := by decide +kernel
theorem dX4_begins_20 : decode cX4_begins 20 = .ok (.iconst 1, 1) := by decide +kernel
theorem dX4_begins_21 : decode cX4_begins 21 = .ok (.ireturn, 1) := by decide +kernel
abbrev mi_X4_begins : MI := (zTX, RX4, yX4_begins, cX4_begins, 2, (some .boolean), 5)
theorem cal_X4_begins : zCalV mi_X4_begins 1 := ⟨⟨zTB_i3 78 (by decide +kernel), zTB_i3 77 (by decide +kernel), zTB_i0 5 (by decide +kernel), zTB_i1 3 (by decide +kernel)⟩, ⟨by decide, by decide, by decide +kernel⟩, by decide⟩
noncomputable def X4_begins (x1 : Int32) (M : Mem) : Option (Bool × Mem) :=
  if x1 = 0 then
    lp_ (X6_refuse 2 M) fun b3 M4 =>
    some (b3, M4)
  else
  bo_ (X6_step M) fun M2 =>
  some (true, M2)
set_option maxRecDepth 100000 in
set_option maxHeartbeats 4000000 in
theorem X4_begins_ok (G : Gh) (x1 : Int32) (M : Mem) : Mt G mi_X4_begins [.ref (G.2.2.2 (3)), .int x1] M ((dO dZM) (X4_begins x1 M)) := by
  refine Mt_of (lv := [some (.ref (G.2.2.2 (3))), some (.int x1)]) (by decide) rfl (Nat.le_of_ble_eq_true rfl) rfl ?_
  unfold X4_begins
  refine r_iload_n dX4_begins_0 rfl ?_
  refine r_if_ne (tgt := 13) dX4_begins_1 rfl (fun h1 => ?_) (fun h1 => ?_)
  · refine r_aload_n dX4_begins_4 rfl ?_
    refine r_getf (v := .ref (G.2.2.2 (16))) dX4_begins_5 fX_3_1 kX4 (by decide) lkf_X4_40 rfl ?_
    refine r_iconst (x := 2) dX4_begins_8 rfl ?_
    refine c_ZM (inv_V (mi := mi_X4_begins) (b := 16) (rest := []) (X6_refuse_ok G 2 M) rfl (by decide) dX4_begins_9 lkm_X4_149 cal_X6_refuse cX_16 rfl rfl (Nat.le_of_ble_eq_true rfl) rfl) (fun b3 M4 => ?_)
    exact r_iret (ty := .boolean) dX4_begins_12 rfl (b2i_n _) rfl
  refine r_aload_n dX4_begins_13 rfl ?_
  refine r_getf (v := .ref (G.2.2.2 (16))) dX4_begins_14 fX_3_1 kX4 (by decide) lkf_X4_40 rfl ?_
  refine c_OV rfl (inv_V (mi := mi_X4_begins) (b := 16) (rest := []) (X6_step_ok G M) rfl (by decide) dX4_begins_17 lkm_X4_153 cal_X6_step cX_16 rfl rfl (Nat.le_of_ble_eq_true rfl) rfl) (fun M2 => ?_)
  refine r_iconst (x := 1) dX4_begins_20 rfl ?_
  exact r_iret (ty := .boolean) dX4_begins_21 rfl rfl rfl

theorem dX6_isName_0 : decode cX6_isName 0 = .ok (.aload_n 0, 1) := by decide +kernel
theorem dX6_isName_1 : decode cX6_isName 1 = .ok (.ldc 80, 2) := by decide +kernel
theorem dX6_isName_3 : decode cX6_isName 3 = .ok (.invokevirtual 82, 3) := by decide +kernel
theorem dX6_isName_6 : decode cX6_isName 6 = .ok (.ifCond .ne 111, 3) := by decide +kernel
theorem dX6_isName_9 : decode cX6_isName 9 = .ok (.aload_n 0, 1) := by decide +kernel
theorem dX6_isName_10 : decode cX6_isName 10 = .ok (.ldc 86, 2) := by decide +kernel
theorem dX6_isName_12 : decode cX6_isName 12 = .ok (.invokevirtual 82, 3) := by decide +kernel
theorem dX6_isName_15 : decode cX6_isName 15 = .ok (.ifCond .ne 102, 3) := by decide +kernel
theorem dX6_isName_18 : decode cX6_isName 18 = .ok (.aload_n 0, 1) := by decide +kernel
theorem dX6_isName_19 : decode cX6_isName 19 = .ok (.ldc 88, 2) := by decide +kernel
theorem dX6_isName_21 : decode cX6_isName 21 = .ok (.invokevirtual 82, 3) := by decide +kernel
theorem dX6_isName_24 : decode cX6_isName 24 = .ok (.ifCond .ne 93, 3) := by decide +kernel
theorem dX6_isName_27 : decode cX6_isName 27 = .ok (.aload_n 0, 1) := by decide +kernel
theorem dX6_isName_28 : decode cX6_isName 28 = .ok (.ldc 90, 2) := by decide +kernel
theorem dX6_isName_30 : decode cX6_isName 30 = .ok (.invokevirtual 82, 3) := by decide +kernel
theorem dX6_isName_33 : decode cX6_isName 33 = .ok (.ifCond .ne 84, 3) := by decide +kernel
theorem dX6_isName_36 : decode cX6_isName 36 = .ok (.aload_n 0, 1) := by decide +kernel
theorem dX6_isName_37 : decode cX6_isName 37 = .ok (.ldc 92, 2) := by decide +kernel
theorem dX6_isName_39 : decode cX6_isName 39 = .ok (.invokevirtual 82, 3) := by decide +kernel
theorem dX6_isName_42 : decode cX6_isName 42 = .ok (.ifCond .ne 75, 3) := by decide +kernel
theorem dX6_isName_45 : decode cX6_isName 45 = .ok (.aload_n 0, 1) := by decide +kernel
theorem dX6_isName_46 : decode cX6_isName 46 = .ok (.ldc 94, 2) := by decide +kernel
theorem dX6_isName_48 : decode cX6_isName 48 = .ok (.invokevirtual 82, 3) := by decide +kernel
theorem dX6_isName_51 : decode cX6_isName 51 = .ok (.ifCond .ne 66, 3) := by decide +kernel
theorem dX6_isName_54 : decode cX6_isName 54 = .ok (.aload_n 0, 1) := by decide +kernel
theorem dX6_isName_55 : decode cX6_isName 55 = .ok (.ldc 96, 2) := by decide +kernel
theorem dX6_isName_57 : decode cX6_isName 57 = .ok (.invokevirtual 82, 3) := by decide +kernel
theorem dX6_isName_60 : decode cX6_isName 60 = .ok (.ifCond .ne 57, 3) := by decide +kernel
theorem dX6_isName_63 : decode cX6_isName 63 = .ok (.aload_n 0, 1) := by decide +kernel
theorem dX6_isName_64 : decode cX6_isName 64 = .ok (.ldc 98, 2) := by decide +kernel
theorem dX6_isName_66 : decode cX6_isName 66 = .ok (.invokevirtual 82, 3) := by decide +kernel
theorem dX6_isName_69 : decode cX6_isName 69 = .ok (.ifCond .ne 48, 3) := by decide +kernel
theorem dX6_isName_72 : decode cX6_isName 72 = .ok (.aload_n 0, 1) := by decide +kernel
theorem dX6_isName_73 : decode cX6_isName 73 = .ok (.ldc 100, 2) := by decide +kernel
theorem dX6_isName_75 : decode cX6_isName 75 = .ok (.invokevirtual 82, 3) := by decide +kernel
theorem dX6_isName_78 : decode cX6_isName 78 = .ok (.ifCond .ne 39, 3) := by decide +kernel
theorem dX6_isName_81 : decode cX6_isName 81 = .ok (.aload_n 0, 1) := by decide +kernel
theorem dX6_isName_82 : decode cX6_isName 82 = .ok (.ldc 102, 2) := by decide +kernel
theorem dX6_isName_84 : decode cX6_isName 84 = .ok (.invokevirtual 82, 3) := by decide +kernel
theorem dX6_isName_87 : decode cX6_isName 87 = .ok (.ifCond .ne 30, 3) := by decide +kernel
theorem dX6_isName_90 : decode cX6_isName 90 = .ok (.aload_n 0, 1) := by decide +kernel
theorem dX6_isName_91 : decode cX6_isName 91 = .ok (.ldc 104, 2) := by decide +kernel
theorem dX6_isName_93 : decode cX6_isName 93 = .ok (.invokevirtual 82, 3) := by decide +kernel
theorem dX6_isName_96 : decode cX6_isName 96 = .ok (.ifCond .ne 21, 3) := by decide +kernel
theorem dX6_isName_99 : decode cX6_isName 99 = .ok (.aload_n 0, 1) := by decide +kernel
theorem dX6_isName_100 : decode cX6_isName 100 = .ok (.ldc 106, 2) := by decide +kernel
theorem dX6_isName_102 : decode cX6_isName 102 = .ok (.invokevirtual 82, 3) := by decide +kernel
theorem dX6_isName_105 : decode cX6_isName 105 = .ok (.ifCond .ne 12, 3) := by decide +kernel
theorem dX6_isName_108 : decode cX6_isName 108 = .ok (.aload_n 0, 1) := by decide +kernel
theorem dX6_isName_109 : decode cX6_isName 109 = .ok (.ldc 108, 2) := by decide +kernel
theorem dX6_isName_111 : decode cX6_isName 111 = .ok (.invokevirtual 82, 3) := by decide +kernel
theorem dX6_isName_114 : decode cX6_isName 114 = .ok (.ifCond .eq 7, 3) := by decide +kernel
theorem dX6_isName_117 : decode cX6_isName 117 = .ok (.iconst 1, 1) := by decide +kernel
theorem dX6_isName_118 : decode cX6_isName 118 = .ok (.goto 4, 3) := by decide +kernel
theorem dX6_isName_121 : decode cX6_isName 121 = .ok (.iconst 0, 1) := by decide +kernel
theorem dX6_isName_122 : decode cX6_isName 122 = .ok (.istore_n 1, 1) := by decide +kernel
theorem dX6_isName_123 : decode cX6_isName 123 = .ok (.aload_n 0, 1) := by decide +kernel
theorem dX6_isName_124 : decode cX6_isName 124 = .ok (.ldc 110, 2) := by decide +kernel
theorem dX6_isName_126 : decode cX6_isName 126 = .ok (.invokevirtual 82, 3) := by decide +kernel
theorem dX6_isName_129 : decode cX6_isName 129 = .ok (.ifCond .ne 66, 3) := by decide +kernel
theorem dX6_isName_132 : decode cX6_isName 132 = .ok (.aload_n 0, 1) := by decide +kernel
theorem dX6_isName_133 : decode cX6_isName 133 = .ok (.ldc 112, 2) := by decide +kernel
theorem dX6_isName_135 : decode cX6_isName 135 = .ok (.invokevirtual 82, 3) := by decide +kernel
theorem dX6_isName_138 : decode cX6_isName 138 = .ok (.ifCond .ne 57, 3) := by decide +kernel
theorem dX6_isName_141 : decode cX6_isName 141 = .ok (.aload_n 0, 1) := by decide +kernel
theorem dX6_isName_142 : decode cX6_isName 142 = .ok (.ldc 114, 2) := by decide +kernel
theorem dX6_isName_144 : decode cX6_isName 144 = .ok (.invokevirtual 82, 3) := by decide +kernel
theorem dX6_isName_147 : decode cX6_isName 147 = .ok (.ifCond .ne 48, 3) := by decide +kernel
theorem dX6_isName_150 : decode cX6_isName 150 = .ok (.aload_n 0, 1) := by decide +kernel
theorem dX6_isName_151 : decode cX6_isName 151 = .ok (.ldc 116, 2) := by decide +kernel
theorem dX6_isName_153 : decode cX6_isName 153 = .ok (.invokevirtual 82, 3) := by decide +kernel
theorem dX6_isName_156 : decode cX6_isName 156 = .ok (.ifCond .ne 39, 3) := by decide +kernel
theorem dX6_isName_159 : decode cX6_isName 159 = .ok (.aload_n 0, 1) := by decide +kernel
theorem dX6_isName_160 : decode cX6_isName 160 = .ok (.ldc 118, 2) := by decide +kernel
theorem dX6_isName_162 : decode cX6_isName 162 = .ok (.invokevirtual 82, 3) := by decide +kernel
theorem dX6_isName_165 : decode cX6_isName 165 = .ok (.ifCond .ne 30, 3) := by decide +kernel
theorem dX6_isName_168 : decode cX6_isName 168 = .ok (.aload_n 0, 1) := by decide +kernel
theorem dX6_isName_169 : decode cX6_isName 169 = .ok (.ldc 120, 2) := by decide +kernel
theorem dX6_isName_171 : decode cX6_isName 171 = .ok (.invokevirtual 82, 3) := by decide +kernel
theorem dX6_isName_174 : decode cX6_isName 174 = .ok (.ifCond .ne 21, 3) := by decide +kernel
theorem dX6_isName_177 : decode cX6_isName 177 = .ok (.aload_n 0, 1) := by decide +kernel
theorem dX6_isName_178 : decode cX6_isName 178 = .ok (.ldc 122, 2) := by decide +kernel
theorem dX6_isName_180 : decode cX6_isName 180 = .ok (.invokevirtual 82, 3) := by decide +kernel
theorem dX6_isName_183 : decode cX6_isName 183 = .ok (.ifCond .ne 12, 3) := by decide +kernel
theorem dX6_isName_186 : decode cX6_isName 186 = .ok (.aload_n 0, 1) := by decide +kernel
theorem dX6_isName_187 : decode cX6_isName 187 = .ok (.ldc 124, 2) := by decide +kernel
theorem dX6_isName_189 : decode cX6_isName 189 = .ok (.invokevirtual 82, 3) := by decide +kernel
theorem dX6_isName_192 : decode cX6_isName 192 = .ok (.ifCond .eq 7, 3) := by decide +kernel
theorem dX6_isName_195 : decode cX6_isName 195 = .ok (.iconst 1, 1) := by decide +kernel
theorem dX6_isName_196 : decode cX6_isName 196 = .ok (.goto 4, 3) := by decide +kernel
theorem dX6_isName_199 : decode cX6_isName 199 = .ok (.iconst 0, 1) := by decide +kernel
theorem dX6_isName_200 : decode cX6_isName 200 = .ok (.istore_n 2, 1) := by decide +kernel
theorem dX6_isName_201 : decode cX6_isName 201 = .ok (.aload_n 0, 1) := by decide +kernel
theorem dX6_isName_202 : decode cX6_isName 202 = .ok (.getfield 44, 3) := by decide +kernel
theorem dX6_isName_205 : decode cX6_isName 205 = .ok (.iconst 2, 1) := by decide +kernel
theorem dX6_isName_206 : decode cX6_isName 206 = .ok (.if_icmp .ne 15, 3) := by decide +kernel
theorem dX6_isName_209 : decode cX6_isName 209 = .ok (.iload_n 1, 1) := by decide +kernel
theorem dX6_isName_210 : decode cX6_isName 210 = .ok (.ifCond .ne 11, 3) := by decide +kernel
theorem dX6_isName_213 : decode cX6_isName 213 = .ok (.iload_n 2, 1) := by decide +kernel
theorem dX6_isName_214 : decode cX6_isName 214 = .ok (.ifCond .ne 7, 3) := by decide +kernel
theorem dX6_isName_217 : decode cX6_isName 217 = .ok (.iconst 1, 1) := by decide +kernel
theorem dX6_isName_218 : decode cX6_isName 218 = .ok (.goto 4, 3) := by decide +kernel
theorem dX6_isName_221 : decode cX6_isName 221 = .ok (.iconst 0, 1) := by decide +kernel
theorem dX6_isName_222 : decode cX6_isName 222 = .ok (.ireturn, 1) := by decide +kernel
abbrev mi_X6_isName : MI := (zTX, RX6, yX6_isName, cX6_isName, 3, (some .boolean), 9)
theorem cal_X6_isName : zCalV mi_X6_isName 0 := ⟨⟨zTB_i3 91 (by decide +kernel), zTB_i3 89 (by decide +kernel), zTB_i3 90 (by decide +kernel), zTB_i1 6 (by decide +kernel)⟩, ⟨by decide, by decide, by decide +kernel⟩, by decide⟩
noncomputable def X6_isName (M : Mem) : Option (Bool) :=
  bo_ (X6_says 1 M) fun b1 =>
  b1_ (α := Int32) (
    b1_ (α := Bool) (
      if b1 = true then
        some true
      else
      bo_ (X6_says 2 M) fun b3 =>
      if b3 = true then
        some true
      else
      some false) fun t5 =>
    if t5 = true then
      some 1
    else
    bo_ (X6_says 3 M) fun b7 =>
    b1_ (α := Bool) (
      if b7 = true then
        some true
      else
      bo_ (X6_says 4 M) fun b9 =>
      if b9 = true then
        some true
      else
      some false) fun t11 =>
    if t11 = true then
      some 1
    else
    bo_ (X6_says 5 M) fun b13 =>
    b1_ (α := Bool) (
      if b13 = true then
        some true
      else
      bo_ (X6_says 6 M) fun b15 =>
      if b15 = true then
        some true
      else
      some false) fun t17 =>
    if t17 = true then
      some 1
    else
    bo_ (X6_says 7 M) fun b19 =>
    b1_ (α := Bool) (
      if b19 = true then
        some true
      else
      bo_ (X6_says 8 M) fun b21 =>
      if b21 = true then
        some true
      else
      some false) fun t23 =>
    if t23 = true then
      some 1
    else
    bo_ (X6_says 9 M) fun b25 =>
    b1_ (α := Bool) (
      if b25 = true then
        some true
      else
      bo_ (X6_says 10 M) fun b27 =>
      if b27 = true then
        some true
      else
      some false) fun t29 =>
    if t29 = true then
      some 1
    else
    bo_ (X6_says 11 M) fun b31 =>
    b1_ (α := Bool) (
      if b31 = true then
        some true
      else
      bo_ (X6_says 12 M) fun b33 =>
      if b33 = true then
        some true
      else
      some false) fun t35 =>
    if t35 = true then
      some 1
    else
    bo_ (X6_says 13 M) fun b37 =>
    if b37 = true then
      some 1
    else
    some 0) fun y39 =>
  bo_ (X6_says 14 M) fun b40 =>
  b1_ (α := Int32) (
    b1_ (α := Bool) (
      if b40 = true then
        some true
      else
      bo_ (X6_says 15 M) fun b42 =>
      if b42 = true then
        some true
      else
      some false) fun t44 =>
    if t44 = true then
      some 1
    else
    bo_ (X6_says 16 M) fun b46 =>
    b1_ (α := Bool) (
      if b46 = true then
        some true
      else
      bo_ (X6_says 17 M) fun b48 =>
      if b48 = true then
        some true
      else
      some false) fun t50 =>
    if t50 = true then
      some 1
    else
    bo_ (X6_says 18 M) fun b52 =>
    b1_ (α := Bool) (
      if b52 = true then
        some true
      else
      bo_ (X6_says 19 M) fun b54 =>
      if b54 = true then
        some true
      else
      some false) fun t56 =>
    if t56 = true then
      some 1
    else
    bo_ (X6_says 20 M) fun b58 =>
    b1_ (α := Bool) (
      if b58 = true then
        some true
      else
      bo_ (X6_says 21 M) fun b60 =>
      if b60 = true then
        some true
      else
      some false) fun t62 =>
    if t62 = true then
      some 1
    else
    some 0) fun y64 =>
  if (M.1 16 1) = 2 then
    if y39 = 0 then
      if y64 = 0 then
        some true
      else
      some false
    else
    some false
  else
  some false
set_option maxRecDepth 100000 in
set_option maxHeartbeats 4000000 in
theorem X6_isName_ok (G : Gh) (M : Mem) : Mt G mi_X6_isName [.ref (G.2.2.2 (16))] M ((dO (dZ M)) (X6_isName M)) := by
  refine Mt_of (lv := [some (.ref (G.2.2.2 (16)))]) (by decide) rfl (Nat.le_of_ble_eq_true rfl) rfl ?_
  refine r_le (lv' := [some (.ref (G.2.2.2 (16))), none, none]) (And.intro rfl True.intro) ?_
  unfold X6_isName
  refine r_aload_n dX6_isName_0 rfl ?_
  refine r_ldcS (i := 1) dX6_isName_1 rfl ?_
  refine c_OZ rfl (inv_V (mi := mi_X6_isName) (b := 16) (rest := []) (X6_says_ok G (w1 := 1) (by decide) M) rfl (by decide) dX6_isName_3 lkm_X6_82 cal_X6_says cX_16 rfl rfl (Nat.le_of_ble_eq_true rfl) rfl) (fun b1 => ?_)
  refine r_jB1 (j := 122) (lvj := fun y39 => [some (.ref (G.2.2.2 (16))), none, none]) (stj := fun y39 => [.int y39]) (Mj := fun y39 => M) (fun y39 => ?_) (fun hj122 => ?_)
  · refine r_istore_n (lv' := [some (.ref (G.2.2.2 (16))), some (.int y39), none]) dX6_isName_122 (Nat.le_of_ble_eq_true rfl) rfl rfl ?_
    refine r_aload_n dX6_isName_123 rfl ?_
    refine r_ldcS (i := 14) dX6_isName_124 rfl ?_
    refine c_OZ rfl (inv_V (mi := mi_X6_isName) (b := 16) (rest := []) (X6_says_ok G (w1 := 14) (by decide) M) rfl (by decide) dX6_isName_126 lkm_X6_82 cal_X6_says cX_16 rfl rfl (Nat.le_of_ble_eq_true rfl) rfl) (fun b40 => ?_)
    refine r_jB1 (j := 200) (lvj := fun y64 => [some (.ref (G.2.2.2 (16))), some (.int y39), none]) (stj := fun y64 => [.int y64]) (Mj := fun y64 => M) (fun y64 => ?_) (fun hj200 => ?_)
    · refine r_istore_n (lv' := [some (.ref (G.2.2.2 (16))), some (.int y39), some (.int y64)]) dX6_isName_200 (Nat.le_of_ble_eq_true rfl) rfl rfl ?_
      refine r_aload_n dX6_isName_201 rfl ?_
      refine r_getf (v := .int (M.1 16 1)) dX6_isName_202 fX_16_1 kX6 (by decide) lkf_X6_44 rfl ?_
      refine r_iconst (x := 2) dX6_isName_205 rfl ?_
      refine r_icmp_ne (tgt := 221) dX6_isName_206 rfl (fun h65 => ?_) (fun h65 => ?_)
      · refine r_iload_n dX6_isName_209 rfl ?_
        refine r_if_ne (tgt := 221) dX6_isName_210 rfl (fun h66 => ?_) (fun h66 => ?_)
        · refine r_iload_n dX6_isName_213 rfl ?_
          refine r_if_ne (tgt := 221) dX6_isName_214 rfl (fun h67 => ?_) (fun h67 => ?_)
          · refine r_iconst (x := 1) dX6_isName_217 rfl ?_
            refine r_goto (tgt := 222) dX6_isName_218 rfl ?_
            exact r_iret (ty := .boolean) dX6_isName_222 rfl rfl rfl
          refine r_iconst (x := 0) dX6_isName_221 rfl ?_
          exact r_iret (ty := .boolean) dX6_isName_222 rfl rfl rfl
        refine r_iconst (x := 0) dX6_isName_221 rfl ?_
        exact r_iret (ty := .boolean) dX6_isName_222 rfl rfl rfl
      refine r_iconst (x := 0) dX6_isName_221 rfl ?_
      exact r_iret (ty := .boolean) dX6_isName_222 rfl rfl rfl
    refine r_cB (jX := 195) (jY := 141) (lvX := [some (.ref (G.2.2.2 (16))), some (.int y39), none]) (lvY := [some (.ref (G.2.2.2 (16))), some (.int y39), none]) (stX := []) (M1 := M) (fun h45 => ?_) (fun h45 => ?_) (fun hX195 hY141 => ?_)
    · refine r_eq (if_pos rfl) ?_
      refine r_iconst (x := 1) dX6_isName_195 rfl ?_
      refine r_goto (tgt := 200) dX6_isName_196 rfl ?_
      exact r_lk (hj200 1) (And.intro rfl (And.intro rfl True.intro))
    · refine r_eq (if_neg (by decide)) ?_
      refine r_aload_n dX6_isName_141 rfl ?_
      refine r_ldcS (i := 16) dX6_isName_142 rfl ?_
      refine c_OZ rfl (inv_V (mi := mi_X6_isName) (b := 16) (rest := []) (X6_says_ok G (w1 := 16) (by decide) M) rfl (by decide) dX6_isName_144 lkm_X6_82 cal_X6_says cX_16 rfl rfl (Nat.le_of_ble_eq_true rfl) rfl) (fun b46 => ?_)
      refine r_cB (jX := 195) (jY := 159) (lvX := [some (.ref (G.2.2.2 (16))), some (.int y39), none]) (lvY := [some (.ref (G.2.2.2 (16))), some (.int y39), none]) (stX := []) (M1 := M) (fun h51 => ?_) (fun h51 => ?_) (fun hX195 hY159 => ?_)
      · refine r_eq (if_pos rfl) ?_
        refine r_iconst (x := 1) dX6_isName_195 rfl ?_
        refine r_goto (tgt := 200) dX6_isName_196 rfl ?_
        exact r_lk (hj200 1) (And.intro rfl (And.intro rfl True.intro))
      · refine r_eq (if_neg (by decide)) ?_
        refine r_aload_n dX6_isName_159 rfl ?_
        refine r_ldcS (i := 18) dX6_isName_160 rfl ?_
        refine c_OZ rfl (inv_V (mi := mi_X6_isName) (b := 16) (rest := []) (X6_says_ok G (w1 := 18) (by decide) M) rfl (by decide) dX6_isName_162 lkm_X6_82 cal_X6_says cX_16 rfl rfl (Nat.le_of_ble_eq_true rfl) rfl) (fun b52 => ?_)
        refine r_cB (jX := 195) (jY := 177) (lvX := [some (.ref (G.2.2.2 (16))), some (.int y39), none]) (lvY := [some (.ref (G.2.2.2 (16))), some (.int y39), none]) (stX := []) (M1 := M) (fun h57 => ?_) (fun h57 => ?_) (fun hX195 hY177 => ?_)
        · refine r_eq (if_pos rfl) ?_
          refine r_iconst (x := 1) dX6_isName_195 rfl ?_
          refine r_goto (tgt := 200) dX6_isName_196 rfl ?_
          exact r_lk (hj200 1) (And.intro rfl (And.intro rfl True.intro))
        · refine r_eq (if_neg (by decide)) ?_
          refine r_aload_n dX6_isName_177 rfl ?_
          refine r_ldcS (i := 20) dX6_isName_178 rfl ?_
          refine c_OZ rfl (inv_V (mi := mi_X6_isName) (b := 16) (rest := []) (X6_says_ok G (w1 := 20) (by decide) M) rfl (by decide) dX6_isName_180 lkm_X6_82 cal_X6_says cX_16 rfl rfl (Nat.le_of_ble_eq_true rfl) rfl) (fun b58 => ?_)
          refine r_cB (jX := 195) (jY := 199) (lvX := [some (.ref (G.2.2.2 (16))), some (.int y39), none]) (lvY := [some (.ref (G.2.2.2 (16))), some (.int y39), none]) (stX := []) (M1 := M) (fun h63 => ?_) (fun h63 => ?_) (fun hX195 hY199 => ?_)
          · refine r_eq (if_pos rfl) ?_
            refine r_iconst (x := 1) dX6_isName_195 rfl ?_
            refine r_goto (tgt := 200) dX6_isName_196 rfl ?_
            exact r_lk (hj200 1) (And.intro rfl (And.intro rfl True.intro))
          · refine r_eq (if_neg (by decide)) ?_
            refine r_iconst (x := 0) dX6_isName_199 rfl ?_
            exact r_lk (hj200 0) (And.intro rfl (And.intro rfl True.intro))
          refine r_ifz_ne (tgt := 195) dX6_isName_183 rfl (fun h59 => ?_) (fun h59 => ?_)
          · exact r_lk hX195 (And.intro rfl (And.intro rfl True.intro))
          refine r_aload_n dX6_isName_186 rfl ?_
          refine r_ldcS (i := 21) dX6_isName_187 rfl ?_
          refine c_OZ rfl (inv_V (mi := mi_X6_isName) (b := 16) (rest := []) (X6_says_ok G (w1 := 21) (by decide) M) rfl (by decide) dX6_isName_189 lkm_X6_82 cal_X6_says cX_16 rfl rfl (Nat.le_of_ble_eq_true rfl) rfl) (fun b60 => ?_)
          refine r_ifz_eq (tgt := 199) dX6_isName_192 rfl (fun h61 => ?_) (fun h61 => ?_)
          · exact r_lk hX195 (And.intro rfl (And.intro rfl True.intro))
          exact r_lk hY199 (And.intro rfl (And.intro rfl True.intro))
        refine r_ifz_ne (tgt := 195) dX6_isName_165 rfl (fun h53 => ?_) (fun h53 => ?_)
        · exact r_lk hX195 (And.intro rfl (And.intro rfl True.intro))
        refine r_aload_n dX6_isName_168 rfl ?_
        refine r_ldcS (i := 19) dX6_isName_169 rfl ?_
        refine c_OZ rfl (inv_V (mi := mi_X6_isName) (b := 16) (rest := []) (X6_says_ok G (w1 := 19) (by decide) M) rfl (by decide) dX6_isName_171 lkm_X6_82 cal_X6_says cX_16 rfl rfl (Nat.le_of_ble_eq_true rfl) rfl) (fun b54 => ?_)
        refine r_ifz_ne (tgt := 195) dX6_isName_174 rfl (fun h55 => ?_) (fun h55 => ?_)
        · exact r_lk hX195 (And.intro rfl (And.intro rfl True.intro))
        exact r_lk hY177 (And.intro rfl (And.intro rfl True.intro))
      refine r_ifz_ne (tgt := 195) dX6_isName_147 rfl (fun h47 => ?_) (fun h47 => ?_)
      · exact r_lk hX195 (And.intro rfl (And.intro rfl True.intro))
      refine r_aload_n dX6_isName_150 rfl ?_
      refine r_ldcS (i := 17) dX6_isName_151 rfl ?_
      refine c_OZ rfl (inv_V (mi := mi_X6_isName) (b := 16) (rest := []) (X6_says_ok G (w1 := 17) (by decide) M) rfl (by decide) dX6_isName_153 lkm_X6_82 cal_X6_says cX_16 rfl rfl (Nat.le_of_ble_eq_true rfl) rfl) (fun b48 => ?_)
      refine r_ifz_ne (tgt := 195) dX6_isName_156 rfl (fun h49 => ?_) (fun h49 => ?_)
      · exact r_lk hX195 (And.intro rfl (And.intro rfl True.intro))
      exact r_lk hY159 (And.intro rfl (And.intro rfl True.intro))
    refine r_ifz_ne (tgt := 195) dX6_isName_129 rfl (fun h41 => ?_) (fun h41 => ?_)
    · exact r_lk hX195 (And.intro rfl (And.intro rfl True.intro))
    refine r_aload_n dX6_isName_132 rfl ?_
    refine r_ldcS (i := 15) dX6_isName_133 rfl ?_
    refine c_OZ rfl (inv_V (mi := mi_X6_isName) (b := 16) (rest := []) (X6_says_ok G (w1 := 15) (by decide) M) rfl (by decide) dX6_isName_135 lkm_X6_82 cal_X6_says cX_16 rfl rfl (Nat.le_of_ble_eq_true rfl) rfl) (fun b42 => ?_)
    refine r_ifz_ne (tgt := 195) dX6_isName_138 rfl (fun h43 => ?_) (fun h43 => ?_)
    · exact r_lk hX195 (And.intro rfl (And.intro rfl True.intro))
    exact r_lk hY141 (And.intro rfl (And.intro rfl True.intro))
  refine r_cB (jX := 117) (jY := 18) (lvX := [some (.ref (G.2.2.2 (16))), none, none]) (lvY := [some (.ref (G.2.2.2 (16))), none, none]) (stX := []) (M1 := M) (fun h6 => ?_) (fun h6 => ?_) (fun hX117 hY18 => ?_)
  · refine r_eq (if_pos rfl) ?_
    refine r_iconst (x := 1) dX6_isName_117 rfl ?_
    refine r_goto (tgt := 122) dX6_isName_118 rfl ?_
    exact r_lk (hj122 1) (And.intro rfl True.intro)
  · refine r_eq (if_neg (by decide)) ?_
    refine r_aload_n dX6_isName_18 rfl ?_
    refine r_ldcS (i := 3) dX6_isName_19 rfl ?_
    refine c_OZ rfl (inv_V (mi := mi_X6_isName) (b := 16) (rest := []) (X6_says_ok G (w1 := 3) (by decide) M) rfl (by decide) dX6_isName_21 lkm_X6_82 cal_X6_says cX_16 rfl rfl (Nat.le_of_ble_eq_true rfl) rfl) (fun b7 => ?_)
    refine r_cB (jX := 117) (jY := 36) (lvX := [some (.ref (G.2.2.2 (16))), none, none]) (lvY := [some (.ref (G.2.2.2 (16))), none, none]) (stX := []) (M1 := M) (fun h12 => ?_) (fun h12 => ?_) (fun hX117 hY36 => ?_)
    · refine r_eq (if_pos rfl) ?_
      refine r_iconst (x := 1) dX6_isName_117 rfl ?_
      refine r_goto (tgt := 122) dX6_isName_118 rfl ?_
      exact r_lk (hj122 1) (And.intro rfl True.intro)
    · refine r_eq (if_neg (by decide)) ?_
      refine r_aload_n dX6_isName_36 rfl ?_
      refine r_ldcS (i := 5) dX6_isName_37 rfl ?_
      refine c_OZ rfl (inv_V (mi := mi_X6_isName) (b := 16) (rest := []) (X6_says_ok G (w1 := 5) (by decide) M) rfl (by decide) dX6_isName_39 lkm_X6_82 cal_X6_says cX_16 rfl rfl (Nat.le_of_ble_eq_true rfl) rfl) (fun b13 => ?_)
      refine r_cB (jX := 117) (jY := 54) (lvX := [some (.ref (G.2.2.2 (16))), none, none]) (lvY := [some (.ref (G.2.2.2 (16))), none, none]) (stX := []) (M1 := M) (fun h18 => ?_) (fun h18 => ?_) (fun hX117 hY54 => ?_)
      · refine r_eq (if_pos rfl) ?_
        refine r_iconst (x := 1) dX6_isName_117 rfl ?_
        refine r_goto (tgt := 122) dX6_isName_118 rfl ?_
        exact r_lk (hj122 1) (And.intro rfl True.intro)
      · refine r_eq (if_neg (by decide)) ?_
        refine r_aload_n dX6_isName_54 rfl ?_
        refine r_ldcS (i := 7) dX6_isName_55 rfl ?_
        refine c_OZ rfl (inv_V (mi := mi_X6_isName) (b := 16) (rest := []) (X6_says_ok G (w1 := 7) (by decide) M) rfl (by decide) dX6_isName_57 lkm_X6_82 cal_X6_says cX_16 rfl rfl (Nat.le_of_ble_eq_true rfl) rfl) (fun b19 => ?_)
        refine r_cB (jX := 117) (jY := 72) (lvX := [some (.ref (G.2.2.2 (16))), none, none]) (lvY := [some (.ref (G.2.2.2 (16))), none, none]) (stX := []) (M1 := M) (fun h24 => ?_) (fun h24 => ?_) (fun hX117 hY72 => ?_)
        · refine r_eq (if_pos rfl) ?_
          refine r_iconst (x := 1) dX6_isName_117 rfl ?_
          refine r_goto (tgt := 122) dX6_isName_118 rfl ?_
          exact r_lk (hj122 1) (And.intro rfl True.intro)
        · refine r_eq (if_neg (by decide)) ?_
          refine r_aload_n dX6_isName_72 rfl ?_
          refine r_ldcS (i := 9) dX6_isName_73 rfl ?_
          refine c_OZ rfl (inv_V (mi := mi_X6_isName) (b := 16) (rest := []) (X6_says_ok G (w1 := 9) (by decide) M) rfl (by decide) dX6_isName_75 lkm_X6_82 cal_X6_says cX_16 rfl rfl (Nat.le_of_ble_eq_true rfl) rfl) (fun b25 => ?_)
          refine r_cB (jX := 117) (jY := 90) (lvX := [some (.ref (G.2.2.2 (16))), none, none]) (lvY := [some (.ref (G.2.2.2 (16))), none, none]) (stX := []) (M1 := M) (fun h30 => ?_) (fun h30 => ?_) (fun hX117 hY90 => ?_)
          · refine r_eq (if_pos rfl) ?_
            refine r_iconst (x := 1) dX6_isName_117 rfl ?_
            refine r_goto (tgt := 122) dX6_isName_118 rfl ?_
            exact r_lk (hj122 1) (And.intro rfl True.intro)
          · refine r_eq (if_neg (by decide)) ?_
            refine r_aload_n dX6_isName_90 rfl ?_
            refine r_ldcS (i := 11) dX6_isName_91 rfl ?_
            refine c_OZ rfl (inv_V (mi := mi_X6_isName) (b := 16) (rest := []) (X6_says_ok G (w1 := 11) (by decide) M) rfl (by decide) dX6_isName_93 lkm_X6_82 cal_X6_says cX_16 rfl rfl (Nat.le_of_ble_eq_true rfl) rfl) (fun b31 => ?_)
            refine r_cB (jX := 117) (jY := 108) (lvX := [some (.ref (G.2.2.2 (16))), none, none]) (lvY := [some (.ref (G.2.2.2 (16))), none, none]) (stX := []) (M1 := M) (fun h36 => ?_) (fun h36 => ?_) (fun hX117 hY108 => ?_)
            · refine r_eq (if_pos rfl) ?_
              refine r_iconst (x := 1) dX6_isName_117 rfl ?_
              refine r_goto (tgt := 122) dX6_isName_118 rfl ?_
              exact r_lk (hj122 1) (And.intro rfl True.intro)
            · refine r_eq (if_neg (by decide)) ?_
              refine r_aload_n dX6_isName_108 rfl ?_
              refine r_ldcS (i := 13) dX6_isName_109 rfl ?_
              refine c_OZ rfl (inv_V (mi := mi_X6_isName) (b := 16) (rest := []) (X6_says_ok G (w1 := 13) (by decide) M) rfl (by decide) dX6_isName_111 lkm_X6_82 cal_X6_says cX_16 rfl rfl (Nat.le_of_ble_eq_true rfl) rfl) (fun b37 => ?_)
              refine r_ifz_eq (tgt := 121) dX6_isName_114 rfl (fun h38 => ?_) (fun h38 => ?_)
              · refine r_iconst (x := 1) dX6_isName_117 rfl ?_
                refine r_goto (tgt := 122) dX6_isName_118 rfl ?_
                exact r_lk (hj122 1) (And.intro rfl True.intro)
              refine r_iconst (x := 0) dX6_isName_121 rfl ?_
              exact r_lk (hj122 0) (And.intro rfl True.intro)
            refine r_ifz_ne (tgt := 117) dX6_isName_96 rfl (fun h32 => ?_) (fun h32 => ?_)
            · exact r_lk hX117 (And.intro rfl True.intro)
            refine r_aload_n dX6_isName_99 rfl ?_
            refine r_ldcS (i := 12) dX6_isName_100 rfl ?_
            refine c_OZ rfl (inv_V (mi := mi_X6_isName) (b := 16) (rest := []) (X6_says_ok G (w1 := 12) (by decide) M) rfl (by decide) dX6_isName_102 lkm_X6_82 cal_X6_says cX_16 rfl rfl (Nat.le_of_ble_eq_true rfl) rfl) (fun b33 => ?_)
            refine r_ifz_ne (tgt := 117) dX6_isName_105 rfl (fun h34 => ?_) (fun h34 => ?_)
            · exact r_lk hX117 (And.intro rfl True.intro)
            exact r_lk hY108 (And.intro rfl True.intro)
          refine r_ifz_ne (tgt := 117) dX6_isName_78 rfl (fun h26 => ?_) (fun h26 => ?_)
          · exact r_lk hX117 (And.intro rfl True.intro)
          refine r_aload_n dX6_isName_81 rfl ?_
          refine r_ldcS (i := 10) dX6_isName_82 rfl ?_
          refine c_OZ rfl (inv_V (mi := mi_X6_isName) (b := 16) (rest := []) (X6_says_ok G (w1 := 10) (by decide) M) rfl (by decide) dX6_isName_84 lkm_X6_82 cal_X6_says cX_16 rfl rfl (Nat.le_of_ble_eq_true rfl) rfl) (fun b27 => ?_)
          refine r_ifz_ne (tgt := 117) dX6_isName_87 rfl (fun h28 => ?_) (fun h28 => ?_)
          · exact r_lk hX117 (And.intro rfl True.intro)
          exact r_lk hY90 (And.intro rfl True.intro)
        refine r_ifz_ne (tgt := 117) dX6_isName_60 rfl (fun h20 => ?_) (fun h20 => ?_)
        · exact r_lk hX117 (And.intro rfl True.intro)
        refine r_aload_n dX6_isName_63 rfl ?_
        refine r_ldcS (i := 8) dX6_isName_64 rfl ?_
        refine c_OZ rfl (inv_V (mi := mi_X6_isName) (b := 16) (rest := []) (X6_says_ok G (w1 := 8) (by decide) M) rfl (by decide) dX6_isName_66 lkm_X6_82 cal_X6_says cX_16 rfl rfl (Nat.le_of_ble_eq_true rfl) rfl) (fun b21 => ?_)
        refine r_ifz_ne (tgt := 117) dX6_isName_69 rfl (fun h22 => ?_) (fun h22 => ?_)
        · exact r_lk hX117 (And.intro rfl True.intro)
        exact r_lk hY72 (And.intro rfl True.intro)
      refine r_ifz_ne (tgt := 117) dX6_isName_42 rfl (fun h14 => ?_) (fun h14 => ?_)
      · exact r_lk hX117 (And.intro rfl True.intro)
      refine r_aload_n dX6_isName_45 rfl ?_
      refine r_ldcS (i := 6) dX6_isName_46 rfl ?_
      refine c_OZ rfl (inv_V (mi := mi_X6_isName) (b := 16) (rest := []) (X6_says_ok G (w1 := 6) (by decide) M) rfl (by decide) dX6_isName_48 lkm_X6_82 cal_X6_says cX_16 rfl rfl (Nat.le_of_ble_eq_true rfl) rfl) (fun b15 => ?_)
      refine r_ifz_ne (tgt := 117) dX6_isName_51 rfl (fun h16 => ?_) (fun h16 => ?_)
      · exact r_lk hX117 (And.intro rfl True.intro)
      exact r_lk hY54 (And.intro rfl True.intro)
    refine r_ifz_ne (tgt := 117) dX6_isName_24 rfl (fun h8 => ?_) (fun h8 => ?_)
    · exact r_lk hX117 (And.intro rfl True.intro)
    refine r_aload_n dX6_isName_27 rfl ?_
    refine r_ldcS (i := 4) dX6_isName_28 rfl ?_
    refine c_OZ rfl (inv_V (mi := mi_X6_isName) (b := 16) (rest := []) (X6_says_ok G (w1 := 4) (by decide) M) rfl (by decide) dX6_isName_30 lkm_X6_82 cal_X6_says cX_16 rfl rfl (Nat.le_of_ble_eq_true rfl) rfl) (fun b9 => ?_)
    refine r_ifz_ne (tgt := 117) dX6_isName_33 rfl (fun h10 => ?_) (fun h10 => ?_)
    · exact r_lk hX117 (And.intro rfl True.intro)
    exact r_lk hY36 (And.intro rfl True.intro)
  refine r_ifz_ne (tgt := 117) dX6_isName_6 rfl (fun h2 => ?_) (fun h2 => ?_)
  · exact r_lk hX117 (And.intro rfl True.intro)
  refine r_aload_n dX6_isName_9 rfl ?_
  refine r_ldcS (i := 2) dX6_isName_10 rfl ?_
  refine c_OZ rfl (inv_V (mi := mi_X6_isName) (b := 16) (rest := []) (X6_says_ok G (w1 := 2) (by decide) M) rfl (by decide) dX6_isName_12 lkm_X6_82 cal_X6_says cX_16 rfl rfl (Nat.le_of_ble_eq_true rfl) rfl) (fun b3 => ?_)
  refine r_ifz_ne (tgt := 117) dX6_isName_15 rfl (fun h4 => ?_) (fun h4 => ?_)
  · exact r_lk hX117 (And.intro rfl True.intro)
  exact r_lk hY18 (And.intro rfl True.intro)

theorem dX4_search_0 : decode cX4_search 0 = .ok (.iconst 0, 1) := by decide +kernel
theorem dX4_search_1 : decode cX4_search 1 = .ok (.istore_n 3, 1) := by decide +kernel
theorem dX4_search_2 : decode cX4_search 2 = .ok (.iload_n 3, 1) := by decide +kernel
theorem dX4_search_3 : decode cX4_search 3 = .ok (.iload_n 2, 1) := by decide +kernel
theorem dX4_search_4 : decode cX4_search 4 = .ok (.if_icmp .ge 31, 3) := by decide +kernel
theorem dX4_search_7 : decode cX4_search 7 = .ok (.iload_n 3, 1) := by decide +kernel
theorem dX4_search_8 : decode cX4_search 8 = .ok (.aload_n 1, 1) := by decide +kernel
theorem dX4_search_9 : decode cX4_search 9 = .ok (.arraylength, 1) := by decide +kernel
theorem dX4_search_10 : decode cX4_search 10 = .ok (.if_icmp .ge 25, 3) := by decide +kernel
theorem dX4_search_13 : decode cX4_search 13 = .ok (.aload_n 1, 1) := by decide +kernel
theorem dX4_search_14 : decode cX4_search 14 = .ok (.iload_n 3, 1) := by decide +kernel
theorem dX4_search_15 : decode cX4_search 15 = .ok (.laload, 1) := by decide +kernel
theorem dX4_search_16 : decode cX4_search 16 = .ok (.aload_n 0, 1) := by decide +kernel
theorem dX4_search_17 : decode cX4_search 17 = .ok (.getfield 40, 3) := by decide +kernel
theorem dX4_search_20 : decode cX4_search 20 = .ok (.getfield 241, 3) := by decide +kernel
theorem dX4_search_23 : decode cX4_search 23 = .ok (.lcmp, 1) := by decide +kernel
theorem dX4_search_24 : decode cX4_search 24 = .ok (.ifCond .ne 5, 3) := by decide +kernel
theorem dX4_search_27 : decode cX4_search 27 = .ok (.iload_n 3, 1) := by decide +kernel
theorem dX4_search_28 : decode cX4_search 28 = .ok (.ireturn, 1) := by decide +kernel
theorem dX4_search_29 : decode cX4_search 29 = .ok (.iinc 3 1, 3) := by decide +kernel
theorem dX4_search_32 : decode cX4_search 32 = .ok (.goto (-30), 3) := by decide +kernel
theorem dX4_search_35 : decode cX4_search 35 = .ok (.iconst (-1), 1) := by decide +kernel
theorem dX4_search_36 : decode cX4_search 36 = .ok (.ireturn, 1) := by decide +kernel
abbrev mi_X4_search : MI := (zTX, RX4, yX4_search, cX4_search, 4, (some .int), 2)
theorem cal_X4_search : zCalV mi_X4_search 2 := ⟨⟨zTB_i3 117 (by decide +kernel), zTB_i3 116 (by decide +kernel), zTB_i0 7 (by decide +kernel), zTB_i1 3 (by decide +kernel)⟩, ⟨by decide, by decide, by decide +kernel⟩, by decide⟩
noncomputable def X4_search_L1 (a1 : Nat) (x2 : Int32) (M : Mem) : Nat → Int32 → Option (Int32)
  | 0, _ => none
  | n + 1, c3 =>
    if x2 ≤ c3 then
      some (-1)
    else
    if (nI (zlen zTX a1)) ≤ c3 then
      some (-1)
    else
    gd_ (inb c3 (zlen zTX a1) = true) (
    if (lg_cmp (M.2 a1 c3.toNatClampNeg) (M.2 16 2)) = 0 then
      some c3
    else
    X4_search_L1 a1 x2 M n (c3 + 1))
noncomputable def X4_search (a1 : Nat) (x2 : Int32) (M : Mem) : Option (Int32) :=
  X4_search_L1 a1 x2 M zFU 0
set_option maxRecDepth 100000 in
set_option maxHeartbeats 4000000 in
theorem X4_search_L1_ok (G : Gh) {a1 : Nat} (ha1 : zar zTX a1 = some (3, zlen zTX a1)) (x2 : Int32) (M : Mem) : ∀ (n : Nat) (c3 : Int32), Wr G mi_X4_search (dO (dI M)) 2 [some (.ref (G.2.2.2 (3))), some (.ref (G.2.2.2 (a1))), some (.int x2), some (.int c3)] [] M (X4_search_L1 a1 x2 M n c3) := by
  intro n
  induction n with
  | zero => intro c3; exact r_none rfl
  | succ n ih =>
    intro c3
    rw [X4_search_L1]
    refine r_iload_n dX4_search_2 rfl ?_
    refine r_iload_n dX4_search_3 rfl ?_
    refine r_icmp_ge (tgt := 35) dX4_search_4 rfl (fun h1 => ?_) (fun h1 => ?_)
    · refine r_iconst (x := (-1)) dX4_search_35 rfl ?_
      exact r_iret (ty := .int) dX4_search_36 rfl rfl rfl
    refine r_iload_n dX4_search_7 rfl ?_
    refine r_aload_n dX4_search_8 rfl ?_
    refine r_alen (v := nI (zlen zTX a1)) dX4_search_9 ha1 (by decide) rfl ?_
    refine r_icmp_ge (tgt := 35) dX4_search_10 rfl (fun h2 => ?_) (fun h2 => ?_)
    · refine r_iconst (x := (-1)) dX4_search_35 rfl ?_
      exact r_iret (ty := .int) dX4_search_36 rfl rfl rfl
    refine r_aload_n dX4_search_13 rfl ?_
    refine r_iload_n dX4_search_14 rfl ?_
    refine r_gd rfl (fun g3 => ?_)
    refine r_lald dX4_search_15 ha1 (inb_in g3) rfl ?_
    refine r_aload_n dX4_search_16 rfl ?_
    refine r_getf (v := .ref (G.2.2.2 (16))) dX4_search_17 fX_3_1 kX4 (by decide) lkf_X4_40 rfl ?_
    refine r_getf (v := .long (M.2 16 2)) dX4_search_20 fX_16_2 kX6 (by decide) lkf_X4_241 rfl ?_
    refine r_lcmp dX4_search_23 ?_
    refine r_if_ne (tgt := 29) dX4_search_24 rfl (fun h4 => ?_) (fun h4 => ?_)
    · refine r_iload_n dX4_search_27 rfl ?_
      exact r_iret (ty := .int) dX4_search_28 rfl rfl rfl
    refine r_iinc (y := c3 + 1) (lv' := [some (.ref (G.2.2.2 (3))), some (.ref (G.2.2.2 (a1))), some (.int x2), some (.int (c3 + 1))]) dX4_search_29 rfl rfl (Nat.le_of_ble_eq_true rfl) rfl rfl ?_
    refine r_goto (tgt := 2) dX4_search_32 rfl ?_
    exact r_lk (ih (c3 + 1)) (And.intro rfl (And.intro rfl (And.intro rfl (And.intro rfl True.intro))))
set_option maxRecDepth 100000 in
set_option maxHeartbeats 4000000 in
theorem X4_search_ok (G : Gh) {a1 : Nat} (ha1 : zar zTX a1 = some (3, zlen zTX a1)) (x2 : Int32) (M : Mem) : Mt G mi_X4_search [.ref (G.2.2.2 (3)), .ref (G.2.2.2 (a1)), .int x2] M ((dO (dI M)) (X4_search a1 x2 M)) := by
  refine Mt_of (lv := [some (.ref (G.2.2.2 (3))), some (.ref (G.2.2.2 (a1))), some (.int x2)]) (by decide) rfl (Nat.le_of_ble_eq_true rfl) rfl ?_
  refine r_le (lv' := [some (.ref (G.2.2.2 (3))), some (.ref (G.2.2.2 (a1))), some (.int x2), none]) (And.intro rfl (And.intro rfl (And.intro rfl True.intro))) ?_
  unfold X4_search
  refine r_iconst (x := 0) dX4_search_0 rfl ?_
  refine r_istore_n (lv' := [some (.ref (G.2.2.2 (3))), some (.ref (G.2.2.2 (a1))), some (.int x2), some (.int 0)]) dX4_search_1 (Nat.le_of_ble_eq_true rfl) rfl rfl ?_
  exact r_lk (X4_search_L1_ok G ha1 x2 M zFU 0) (And.intro rfl (And.intro rfl (And.intro rfl (And.intro rfl True.intro))))

theorem dX4_newName_0 : decode cX4_newName 0 = .ok (.aload_n 0, 1) := by decide +kernel
theorem dX4_newName_1 : decode cX4_newName 1 = .ok (.getfield 40, 3) := by decide +kernel
theorem dX4_newName_4 : decode cX4_newName 4 = .ok (.invokevirtual 235, 3) := by decide +kernel
theorem dX4_newName_7 : decode cX4_newName 7 = .ok (.ifCond .ne 12, 3) := by decide +kernel
theorem dX4_newName_10 : decode cX4_newName 10 = .ok (.aload_n 0, 1) := by decide +kernel
theorem dX4_newName_11 : decode cX4_newName 11 = .ok (.getfield 40, 3) := by decide +kernel
theorem dX4_newName_14 : decode cX4_newName 14 = .ok (.iconst 2, 1) := by decide +kernel
theorem dX4_newName_15 : decode cX4_newName 15 = .ok (.invokevirtual 149, 3) := by decide +kernel
theorem dX4_newName_18 : decode cX4_newName 18 = .ok (.ireturn, 1) := by decide +kernel
theorem dX4_newName_19 : decode cX4_newName 19 = .ok (.iload_n 2, 1) := by decide +kernel
theorem dX4_newName_20 : decode cX4_newName 20 = .ok (.ifCond .lt 19, 3) := by decide +kernel
theorem dX4_newName_23 : decode cX4_newName 23 = .ok (.iload_n 2, 1) := by decide +kernel
theorem dX4_newName_24 : decode cX4_newName 24 = .ok (.aload_n 1, 1) := by decide +kernel
theorem dX4_newName_25 : decode cX4_newName 25 = .ok (.arraylength, 1) := by decide +kernel
theorem dX4_newName_26 : decode cX4_newName 26 = .ok (.if_icmp .ge 13, 3) := by decide +kernel
theorem dX4_newName_29 : decode cX4_newName 29 = .ok (.aload_n 0, 1) := by decide +kernel
theorem dX4_newName_30 : decode cX4_newName 30 = .ok (.aload_n 1, 1) := by decide +kernel
theorem dX4_newName_31 : decode cX4_newName 31 = .ok (.iload_n 2, 1) := by decide +kernel
theorem dX4_newName_32 : decode cX4_newName 32 = .ok (.invokevirtual 238, 3) := by decide +kernel
theorem dX4_newName_35 : decode cX4_newName 35 = .ok (.iconst (-1), 1) := by decide +kernel
theorem dX4_newName_36 : decode cX4_newName 36 = .ok (.if_icmp .eq 12, 3) := by decide +kernel
theorem dX4_newName_39 : decode cX4_newName 39 = .ok (.aload_n 0, 1) := by decide +kernel
theorem dX4_newName_40 : decode cX4_newName 40 = .ok (.getfield 40, 3) := by decide +kernel
theorem dX4_newName_43 : decode cX4_newName 43 = .ok (.iconst 3, 1) := by decide +kernel
theorem dX4_newName_44 : decode cX4_newName 44 = .ok (.invokevirtual 149, 3) := by decide +kernel
theorem dX4_newName_47 : decode cX4_newName 47 = .ok (.ireturn, 1) := by decide +kernel
theorem dX4_newName_48 : decode cX4_newName 48 = .ok (.aload_n 1, 1) := by decide +kernel
theorem dX4_newName_49 : decode cX4_newName 49 = .ok (.iload_n 2, 1) := by decide +kernel
theorem dX4_newName_50 : decode cX4_newName 50 = .ok (.aload_n 0, 1) := by decide +kernel
theorem dX4_newName_51 : decode cX4_newName 51 = .ok (.getfield 40, 3) := by decide +kernel
theorem dX4_newName_54 : decode cX4_newName 54 = .ok (.getfield 241, 3) := by decide +kernel
theorem dX4_newName_57 : decode cX4_newName 57 = .ok (.lastore, 1) := by decide +kernel
theorem dX4_newName_58 : decode cX4_newName 58 = .ok (.aload_n 0, 1) := by decide +kernel
theorem dX4_newName_59 : decode cX4_newName 59 = .ok (.getfield 40, 3) := by decide +kernel
theorem dX4_newName_62 : decode cX4_newName 62 = .ok (.invokevirtual 153, 3) := by decide +kernel
theorem dX4_newName_65 : decode cX4_newName 65 = .ok (.iconst 1, 1) := by decide +kernel
theorem dX4_newName_66 : decode cX4_newName 66 = .ok (.ireturn, 1) := by decide +kernel
abbrev mi_X4_newName : MI := (zTX, RX4, yX4_newName, cX4_newName, 3, (some .boolean), 10)
theorem cal_X4_newName : zCalV mi_X4_newName 2 := ⟨⟨zTB_i3 87 (by decide +kernel), zTB_i3 86 (by decide +kernel), zTB_i0 6 (by decide +kernel), zTB_i1 3 (by decide +kernel)⟩, ⟨by decide, by decide, by decide +kernel⟩, by decide⟩
noncomputable def X4_newName (a1 : Nat) (x2 : Int32) (M : Mem) : Option (Bool × Mem) :=
  bo_ (X6_isName M) fun b1 =>
  if b1 = true then
    l1_ (α := Bool) (
      if x2 < 0 then
        true
      else
      if (nI (zlen zTX a1)) ≤ x2 then
        true
      else
      false) fun t5 =>
    if t5 = true then
      lp_ (X6_refuse 3 M) fun b7 M8 =>
      some (b7, M8)
    else
    bo_ (X4_search a1 x2 M) fun v9 =>
    if v9 = (-1) then
      gd_ (inb x2 (zlen zTX a1) = true) (
      lt_ (uL M a1 x2.toNatClampNeg (M.2 16 2)) fun M12 =>
      bo_ (X6_step M12) fun M13 =>
      some (true, M13))
    else
    lp_ (X6_refuse 3 M) fun b14 M15 =>
    some (b14, M15)
  else
  lp_ (X6_refuse 2 M) fun b16 M17 =>
  some (b16, M17)
set_option maxRecDepth 100000 in
set_option maxHeartbeats 4000000 in
theorem X4_newName_ok (G : Gh) {a1 : Nat} (ha1 : zar zTX a1 = some (3, zlen zTX a1)) (x2 : Int32) (M : Mem) : Mt G mi_X4_newName [.ref (G.2.2.2 (3)), .ref (G.2.2.2 (a1)), .int x2] M ((dO dZM) (X4_newName a1 x2 M)) := by
  refine Mt_of (lv := [some (.ref (G.2.2.2 (3))), some (.ref (G.2.2.2 (a1))), some (.int x2)]) (by decide) rfl (Nat.le_of_ble_eq_true rfl) rfl ?_
  unfold X4_newName
  refine r_aload_n dX4_newName_0 rfl ?_
  refine r_getf (v := .ref (G.2.2.2 (16))) dX4_newName_1 fX_3_1 kX4 (by decide) lkf_X4_40 rfl ?_
  refine c_OZ rfl (inv_V (mi := mi_X4_newName) (b := 16) (rest := []) (X6_isName_ok G M) rfl (by decide) dX4_newName_4 lkm_X4_235 cal_X6_isName cX_16 rfl rfl (Nat.le_of_ble_eq_true rfl) rfl) (fun b1 => ?_)
  refine r_ifz_ne (tgt := 19) dX4_newName_7 rfl (fun h2 => ?_) (fun h2 => ?_)
  · refine r_iload_n dX4_newName_19 rfl ?_
    refine r_cL (jX := 39) (jY := 29) (lvX := [some (.ref (G.2.2.2 (3))), none, none]) (lvY := [some (.ref (G.2.2.2 (3))), some (.ref (G.2.2.2 (a1))), some (.int x2)]) (stX := []) (M1 := M) (fun h6 => ?_) (fun h6 => ?_) (fun hX39 hY29 => ?_)
    · refine r_eq (if_pos rfl) ?_
      refine r_aload_n dX4_newName_39 rfl ?_
      refine r_getf (v := .ref (G.2.2.2 (16))) dX4_newName_40 fX_3_1 kX4 (by decide) lkf_X4_40 rfl ?_
      refine r_iconst (x := 3) dX4_newName_43 rfl ?_
      refine c_ZM (inv_V (mi := mi_X4_newName) (b := 16) (rest := []) (X6_refuse_ok G 3 M) rfl (by decide) dX4_newName_44 lkm_X4_149 cal_X6_refuse cX_16 rfl rfl (Nat.le_of_ble_eq_true rfl) rfl) (fun b7 M8 => ?_)
      exact r_iret (ty := .boolean) dX4_newName_47 rfl (b2i_n _) rfl
    · refine r_eq (if_neg (by decide)) ?_
      refine r_aload_n dX4_newName_29 rfl ?_
      refine r_aload_n dX4_newName_30 rfl ?_
      refine r_iload_n dX4_newName_31 rfl ?_
      refine c_OI rfl (inv_V (mi := mi_X4_newName) (b := 3) (rest := []) (X4_search_ok G ha1 x2 M) rfl (by decide) dX4_newName_32 lkm_X4_238 cal_X4_search cX_3 rfl rfl (Nat.le_of_ble_eq_true rfl) rfl) (fun v9 => ?_)
      refine r_iconst (x := (-1)) dX4_newName_35 rfl ?_
      refine r_icmp_eq (tgt := 48) dX4_newName_36 rfl (fun h10 => ?_) (fun h10 => ?_)
      · refine r_aload_n dX4_newName_48 rfl ?_
        refine r_iload_n dX4_newName_49 rfl ?_
        refine r_aload_n dX4_newName_50 rfl ?_
        refine r_getf (v := .ref (G.2.2.2 (16))) dX4_newName_51 fX_3_1 kX4 (by decide) lkf_X4_40 rfl ?_
        refine r_getf (v := .long (M.2 16 2)) dX4_newName_54 fX_16_2 kX6 (by decide) lkf_X4_241 rfl ?_
        refine r_gd rfl (fun g11 => ?_)
        refine r_last dX4_newName_57 ha1 (inb_in g11) rfl (fun M12 => ?_)
        refine r_aload_n dX4_newName_58 rfl ?_
        refine r_getf (v := .ref (G.2.2.2 (16))) dX4_newName_59 fX_3_1 kX4 (by decide) lkf_X4_40 rfl ?_
        refine c_OV rfl (inv_V (mi := mi_X4_newName) (b := 16) (rest := []) (X6_step_ok G M12) rfl (by decide) dX4_newName_62 lkm_X4_153 cal_X6_step cX_16 rfl rfl (Nat.le_of_ble_eq_true rfl) rfl) (fun M13 => ?_)
        refine r_iconst (x := 1) dX4_newName_65 rfl ?_
        exact r_iret (ty := .boolean) dX4_newName_66 rfl rfl rfl
      refine r_aload_n dX4_newName_39 rfl ?_
      refine r_getf (v := .ref (G.2.2.2 (16))) dX4_newName_40 fX_3_1 kX4 (by decide) lkf_X4_40 rfl ?_
      refine r_iconst (x := 3) dX4_newName_43 rfl ?_
      refine c_ZM (inv_V (mi := mi_X4_newName) (b := 16) (rest := []) (X6_refuse_ok G 3 M) rfl (by decide) dX4_newName_44 lkm_X4_149 cal_X6_refuse cX_16 rfl rfl (Nat.le_of_ble_eq_true rfl) rfl) (fun b14 M15 => ?_)
      exact r_iret (ty := .boolean) dX4_newName_47 rfl (b2i_n _) rfl
    refine r_if_lt (tgt := 39) dX4_newName_20 rfl (fun h3 => ?_) (fun h3 => ?_)
    · exact r_lk hX39 (And.intro rfl True.intro)
    refine r_iload_n dX4_newName_23 rfl ?_
    refine r_aload_n dX4_newName_24 rfl ?_
    refine r_alen (v := nI (zlen zTX a1)) dX4_newName_25 ha1 (by decide) rfl ?_
    refine r_icmp_ge (tgt := 39) dX4_newName_26 rfl (fun h4 => ?_) (fun h4 => ?_)
    · exact r_lk hX39 (And.intro rfl True.intro)
    exact r_lk hY29 (And.intro rfl (And.intro rfl (And.intro rfl True.intro)))
  refine r_aload_n dX4_newName_10 rfl ?_
  refine r_getf (v := .ref (G.2.2.2 (16))) dX4_newName_11 fX_3_1 kX4 (by decide) lkf_X4_40 rfl ?_
  refine r_iconst (x := 2) dX4_newName_14 rfl ?_
  refine c_ZM (inv_V (mi := mi_X4_newName) (b := 16) (rest := []) (X6_refuse_ok G 2 M) rfl (by decide) dX4_newName_15 lkm_X4_149 cal_X6_refuse cX_16 rfl rfl (Nat.le_of_ble_eq_true rfl) rfl) (fun b16 M17 => ?_)
  exact r_iret (ty := .boolean) dX4_newName_18 rfl (b2i_n _) rfl

theorem dX6_takesSign_0 : decode cX6_takesSign 0 = .ok (.aload_n 0, 1) := by decide +kernel
theorem dX6_takesSign_1 : decode cX6_takesSign 1 = .ok (.getfield 44, 3) := by decide +kernel
theorem dX6_takesSign_4 : decode cX6_takesSign 4 = .ok (.iload_n 1, 1) := by decide +kernel
theorem dX6_takesSign_5 : decode cX6_takesSign 5 = .ok (.if_icmp .eq 9, 3) := by decide +kernel
theorem dX6_takesSign_8 : decode cX6_takesSign 8 = .ok (.aload_n 0, 1) := by decide +kernel
theorem dX6_takesSign_9 : decode cX6_takesSign 9 = .ok (.iconst 2, 1) := by decide +kernel
theorem dX6_takesSign_10 : decode cX6_takesSign 10 = .ok (.invokevirtual 126, 3) := by decide +kernel
theorem dX6_takesSign_13 : decode cX6_takesSign 13 = .ok (.ireturn, 1) := by decide +kernel
theorem dX6_takesSign_14 : decode cX6_takesSign 14 = .ok (.aload_n 0, 1) := by decide +kernel
theorem dX6_takesSign_15 : decode cX6_takesSign 15 = .ok (.invokevirtual 25, 3) := by decide +kernel
theorem dX6_takesSign_18 : decode cX6_takesSign 18 = .ok (.iconst 1, 1) := by decide +kernel
theorem dX6_takesSign_19 : decode cX6_takesSign 19 = .ok (.ireturn, 1) := by decide +kernel
abbrev mi_X6_takesSign : MI := (zTX, RX6, yX6_takesSign, cX6_takesSign, 2, (some .boolean), 5)
theorem cal_X6_takesSign : zCalV mi_X6_takesSign 1 := ⟨⟨zTB_i3 121 (by decide +kernel), zTB_i3 119 (by decide +kernel), zTB_i3 120 (by decide +kernel), zTB_i1 6 (by decide +kernel)⟩, ⟨by decide, by decide, by decide +kernel⟩, by decide⟩
noncomputable def X6_takesSign (x1 : Int32) (M : Mem) : Option (Bool × Mem) :=
  if (M.1 16 1) = x1 then
    bo_ (X6_step M) fun M2 =>
    some (true, M2)
  else
  lp_ (X6_refuse 2 M) fun b3 M4 =>
  some (b3, M4)
set_option maxRecDepth 100000 in
set_option maxHeartbeats 4000000 in
theorem X6_takesSign_ok (G : Gh) (x1 : Int32) (M : Mem) : Mt G mi_X6_takesSign [.ref (G.2.2.2 (16)), .int x1] M ((dO dZM) (X6_takesSign x1 M)) := by
  refine Mt_of (lv := [some (.ref (G.2.2.2 (16))), some (.int x1)]) (by decide) rfl (Nat.le_of_ble_eq_true rfl) rfl ?_
  unfold X6_takesSign
  refine r_aload_n dX6_takesSign_0 rfl ?_
  refine r_getf (v := .int (M.1 16 1)) dX6_takesSign_1 fX_16_1 kX6 (by decide) lkf_X6_44 rfl ?_
  refine r_iload_n dX6_takesSign_4 rfl ?_
  refine r_icmp_eq (tgt := 14) dX6_takesSign_5 rfl (fun h1 => ?_) (fun h1 => ?_)
  · refine r_aload_n dX6_takesSign_14 rfl ?_
    refine c_OV rfl (inv_V (mi := mi_X6_takesSign) (b := 16) (rest := []) (X6_step_ok G M) rfl (by decide) dX6_takesSign_15 lkm_X6_25 cal_X6_step cX_16 rfl rfl (Nat.le_of_ble_eq_true rfl) rfl) (fun M2 => ?_)
    refine r_iconst (x := 1) dX6_takesSign_18 rfl ?_
    exact r_iret (ty := .boolean) dX6_takesSign_19 rfl rfl rfl
  refine r_aload_n dX6_takesSign_8 rfl ?_
  refine r_iconst (x := 2) dX6_takesSign_9 rfl ?_
  refine c_ZM (inv_V (mi := mi_X6_takesSign) (b := 16) (rest := []) (X6_refuse_ok G 2 M) rfl (by decide) dX6_takesSign_10 lkm_X6_126 cal_X6_refuse cX_16 rfl rfl (Nat.le_of_ble_eq_true rfl) rfl) (fun b3 M4 => ?_)
  exact r_iret (ty := .boolean) dX6_takesSign_13 rfl (b2i_n _) rfl

theorem dX4_readKind_0 : decode cX4_readKind 0 = .ok (.aload_n 0, 1) := by decide +kernel
theorem dX4_readKind_1 : decode cX4_readKind 1 = .ok (.aload_n 0, 1) := by decide +kernel
theorem dX4_readKind_2 : decode cX4_readKind 2 = .ok (.getfield 31, 3) := by decide +kernel
theorem dX4_readKind_5 : decode cX4_readKind 5 = .ok (.getfield 156, 3) := by decide +kernel
theorem dX4_readKind_8 : decode cX4_readKind 8 = .ok (.iconst 3, 1) := by decide +kernel
theorem dX4_readKind_9 : decode cX4_readKind 9 = .ok (.if_icmp .ge 7, 3) := by decide +kernel
theorem dX4_readKind_12 : decode cX4_readKind 12 = .ok (.iconst 1, 1) := by decide +kernel
theorem dX4_readKind_13 : decode cX4_readKind 13 = .ok (.goto 4, 3) := by decide +kernel
theorem dX4_readKind_16 : decode cX4_readKind 16 = .ok (.iconst 0, 1) := by decide +kernel
theorem dX4_readKind_17 : decode cX4_readKind 17 = .ok (.invokevirtual 159, 3) := by decide +kernel
theorem dX4_readKind_20 : decode cX4_readKind 20 = .ok (.ifCond .eq 21, 3) := by decide +kernel
theorem dX4_readKind_23 : decode cX4_readKind 23 = .ok (.aload_n 0, 1) := by decide +kernel
theorem dX4_readKind_24 : decode cX4_readKind 24 = .ok (.aload_n 0, 1) := by decide +kernel
theorem dX4_readKind_25 : decode cX4_readKind 25 = .ok (.getfield 9, 3) := by decide +kernel
theorem dX4_readKind_28 : decode cX4_readKind 28 = .ok (.aload_n 0, 1) := by decide +kernel
theorem dX4_readKind_29 : decode cX4_readKind 29 = .ok (.getfield 31, 3) := by decide +kernel
theorem dX4_readKind_32 : decode cX4_readKind 32 = .ok (.getfield 156, 3) := by decide +kernel
theorem dX4_readKind_35 : decode cX4_readKind 35 = .ok (.invokevirtual 163, 3) := by decide +kernel
theorem dX4_readKind_38 : decode cX4_readKind 38 = .ok (.ifCond .ne 5, 3) := by decide +kernel
theorem dX4_readKind_41 : decode cX4_readKind 41 = .ok (.iconst 0, 1) := by decide +kernel
theorem dX4_readKind_42 : decode cX4_readKind 42 = .ok (.ireturn, 1) := by decide +kernel
theorem dX4_readKind_43 : decode cX4_readKind 43 = .ok (.aload_n 0, 1) := by decide +kernel
theorem dX4_readKind_44 : decode cX4_readKind 44 = .ok (.getfield 31, 3) := by decide +kernel
theorem dX4_readKind_47 : decode cX4_readKind 47 = .ok (.dup, 1) := by decide +kernel
theorem dX4_readKind_48 : decode cX4_readKind 48 = .ok (.getfield 156, 3) := by decide +kernel
theorem dX4_readKind_51 : decode cX4_readKind 51 = .ok (.iconst 1, 1) := by decide +kernel
theorem dX4_readKind_52 : decode cX4_readKind 52 = .ok (.iadd, 1) := by decide +kernel
theorem dX4_readKind_53 : decode cX4_readKind 53 = .ok (.putfield 156, 3) := by decide +kernel
theorem dX4_readKind_56 : decode cX4_readKind 56 = .ok (.aload_n 0, 1) := by decide +kernel
theorem dX4_readKind_57 : decode cX4_readKind 57 = .ok (.getfield 40, 3) := by decide +kernel
theorem dX4_readKind_60 : decode cX4_readKind 60 = .ok (.bipush 59, 2) := by decide +kernel
theorem dX4_readKind_62 : decode cX4_readKind 62 = .ok (.invokevirtual 167, 3) := by decide +kernel
theorem dX4_readKind_65 : decode cX4_readKind 65 = .ok (.ireturn, 1) := by decide +kernel
abbrev mi_X4_readKind : MI := (zTX, RX4, yX4_readKind, cX4_readKind, 1, (some .boolean), 11)
theorem cal_X4_readKind : zCalV mi_X4_readKind 0 := ⟨⟨zTB_i3 74 (by decide +kernel), zTB_i3 73 (by decide +kernel), zTB_i0 4 (by decide +kernel), zTB_i1 3 (by decide +kernel)⟩, ⟨by decide, by decide, by decide +kernel⟩, by decide⟩
noncomputable def X4_readKind (M : Mem) : Option (Bool × Mem) :=
  l1_ (α := Int32) (
    if 3 ≤ (M.1 4 1) then
      0
    else
    1) fun y2 =>
  bp_ (X4_begins y2 M) fun b3 M4 =>
  if b3 = true then
    bp_ (X4_newName 18 (M4.1 4 1) M4) fun b6 M7 =>
    if b6 = true then
      lt_ (uI M7 4 1 ((M7.1 4 1) + 1)) fun M9 =>
      bp_ (X6_takesSign 59 M9) fun b10 M11 =>
      some (b10, M11)
    else
    some (false, M7)
  else
  some (false, M4)
set_option maxRecDepth 100000 in
set_option maxHeartbeats 4000000 in
theorem X4_readKind_ok (G : Gh) (M : Mem) : Mt G mi_X4_readKind [.ref (G.2.2.2 (3))] M ((dO dZM) (X4_readKind M)) := by
  refine Mt_of (lv := [some (.ref (G.2.2.2 (3)))]) (by decide) rfl (Nat.le_of_ble_eq_true rfl) rfl ?_
  unfold X4_readKind
  refine r_aload_n dX4_readKind_0 rfl ?_
  refine r_aload_n dX4_readKind_1 rfl ?_
  refine r_getf (v := .ref (G.2.2.2 (4))) dX4_readKind_2 fX_3_0 kX4 (by decide) lkf_X4_31 rfl ?_
  refine r_getf (v := .int (M.1 4 1)) dX4_readKind_5 fX_4_1 kX3 (by decide) lkf_X4_156 rfl ?_
  refine r_iconst (x := 3) dX4_readKind_8 rfl ?_
  refine r_jL1 (j := 17) (lvj := fun y2 => [some (.ref (G.2.2.2 (3)))]) (stj := fun y2 => [.int y2, .ref (G.2.2.2 (3))]) (Mj := fun y2 => M) (fun y2 => ?_) (fun hj17 => ?_)
  · refine c_OZM rfl (inv_V (mi := mi_X4_readKind) (b := 3) (rest := []) (X4_begins_ok G y2 M) rfl (by decide) dX4_readKind_17 lkm_X4_159 cal_X4_begins cX_3 rfl rfl (Nat.le_of_ble_eq_true rfl) rfl) (fun b3 M4 => ?_)
    refine r_ifz_eq (tgt := 41) dX4_readKind_20 rfl (fun h5 => ?_) (fun h5 => ?_)
    · refine r_aload_n dX4_readKind_23 rfl ?_
      refine r_aload_n dX4_readKind_24 rfl ?_
      refine r_getf (v := .ref (G.2.2.2 (18))) dX4_readKind_25 fX_3_3 kX4 (by decide) lkf_X4_9 rfl ?_
      refine r_aload_n dX4_readKind_28 rfl ?_
      refine r_getf (v := .ref (G.2.2.2 (4))) dX4_readKind_29 fX_3_0 kX4 (by decide) lkf_X4_31 rfl ?_
      refine r_getf (v := .int (M4.1 4 1)) dX4_readKind_32 fX_4_1 kX3 (by decide) lkf_X4_156 rfl ?_
      refine c_OZM rfl (inv_V (mi := mi_X4_readKind) (b := 3) (rest := []) (X4_newName_ok G aX_18p (M4.1 4 1) M4) rfl (by decide) dX4_readKind_35 lkm_X4_163 cal_X4_newName cX_3 rfl rfl (Nat.le_of_ble_eq_true rfl) rfl) (fun b6 M7 => ?_)
      refine r_ifz_ne (tgt := 43) dX4_readKind_38 rfl (fun h8 => ?_) (fun h8 => ?_)
      · refine r_aload_n dX4_readKind_43 rfl ?_
        refine r_getf (v := .ref (G.2.2.2 (4))) dX4_readKind_44 fX_3_0 kX4 (by decide) lkf_X4_31 rfl ?_
        refine r_dup dX4_readKind_47 rfl ?_
        refine r_getf (v := .int (M7.1 4 1)) dX4_readKind_48 fX_4_1 kX3 (by decide) lkf_X4_156 rfl ?_
        refine r_iconst (x := 1) dX4_readKind_51 rfl ?_
        refine r_iadd dX4_readKind_52 ?_
        refine r_putI dX4_readKind_53 fX_4_1 kX3 (by decide) rfl rfl lkf_X4_156 (fun _ => rfl) rfl rfl (fun M9 => ?_)
        refine r_aload_n dX4_readKind_56 rfl ?_
        refine r_getf (v := .ref (G.2.2.2 (16))) dX4_readKind_57 fX_3_1 kX4 (by decide) lkf_X4_40 rfl ?_
        refine r_bipush (x := 59) dX4_readKind_60 rfl ?_
        refine c_OZM rfl (inv_V (mi := mi_X4_readKind) (b := 16) (rest := []) (X6_takesSign_ok G 59 M9) rfl (by decide) dX4_readKind_62 lkm_X4_167 cal_X6_takesSign cX_16 rfl rfl (Nat.le_of_ble_eq_true rfl) rfl) (fun b10 M11 => ?_)
        exact r_iret (ty := .boolean) dX4_readKind_65 rfl (b2i_n _) rfl
      refine r_iconst (x := 0) dX4_readKind_41 rfl ?_
      exact r_iret (ty := .boolean) dX4_readKind_42 rfl rfl rfl
    refine r_iconst (x := 0) dX4_readKind_41 rfl ?_
    exact r_iret (ty := .boolean) dX4_readKind_42 rfl rfl rfl
  refine r_icmp_ge (tgt := 16) dX4_readKind_9 rfl (fun h1 => ?_) (fun h1 => ?_)
  · refine r_iconst (x := 0) dX4_readKind_16 rfl ?_
    exact r_lk (hj17 0) (And.intro rfl True.intro)
  refine r_iconst (x := 1) dX4_readKind_12 rfl ?_
  refine r_goto (tgt := 17) dX4_readKind_13 rfl ?_
  exact r_lk (hj17 1) (And.intro rfl True.intro)

theorem dX6_takesWord_0 : decode cX6_takesWord 0 = .ok (.aload_n 0, 1) := by decide +kernel
theorem dX6_takesWord_1 : decode cX6_takesWord 1 = .ok (.aload_n 1, 1) := by decide +kernel
theorem dX6_takesWord_2 : decode cX6_takesWord 2 = .ok (.invokevirtual 82, 3) := by decide +kernel
theorem dX6_takesWord_5 : decode cX6_takesWord 5 = .ok (.ifCond .ne 9, 3) := by decide +kernel
theorem dX6_takesWord_8 : decode cX6_takesWord 8 = .ok (.aload_n 0, 1) := by decide +kernel
theorem dX6_takesWord_9 : decode cX6_takesWord 9 = .ok (.iconst 2, 1) := by decide +kernel
theorem dX6_takesWord_10 : decode cX6_takesWord 10 = .ok (.invokevirtual 126, 3) := by decide +kernel
theorem dX6_takesWord_13 : decode cX6_takesWord 13 = .ok (.ireturn, 1) := by decide +kernel
theorem dX6_takesWord_14 : decode cX6_takesWord 14 = .ok (.aload_n 0, 1) := by decide +kernel
theorem dX6_takesWord_15 : decode cX6_takesWord 15 = .ok (.invokevirtual 25, 3) := by decide +kernel
theorem dX6_takesWord_18 : decode cX6_takesWord 18 = .ok (.iconst 1, 1) := by decide +kernel
theorem dX6_takesWord_19 : decode cX6_takesWord 19 = .ok (.ireturn, 1) := by decide +kernel
abbrev mi_X6_takesWord : MI := (zTX, RX6, yX6_takesWord, cX6_takesWord, 2, (some .boolean), 9)
theorem cal_X6_takesWord : zCalV mi_X6_takesWord 1 := ⟨⟨zTB_i3 132 (by decide +kernel), zTB_i3 130 (by decide +kernel), zTB_i3 131 (by decide +kernel), zTB_i1 6 (by decide +kernel)⟩, ⟨by decide, by decide, by decide +kernel⟩, by decide⟩
noncomputable def X6_takesWord (w1 : Nat) (M : Mem) : Option (Bool × Mem) :=
  bo_ (X6_says w1 M) fun b1 =>
  if b1 = true then
    bo_ (X6_step M) fun M3 =>
    some (true, M3)
  else
  lp_ (X6_refuse 2 M) fun b4 M5 =>
  some (b4, M5)
set_option maxRecDepth 100000 in
set_option maxHeartbeats 4000000 in
theorem X6_takesWord_ok (G : Gh) {w1 : Nat} (hw1 : w1 < 43) (M : Mem) : Mt G mi_X6_takesWord [.ref (G.2.2.2 (16)), .ref (G.2.2.2 (1000 + w1))] M ((dO dZM) (X6_takesWord w1 M)) := by
  refine Mt_of (lv := [some (.ref (G.2.2.2 (16))), some (.ref (G.2.2.2 (1000 + w1)))]) (by decide) rfl (Nat.le_of_ble_eq_true rfl) rfl ?_
  unfold X6_takesWord
  refine r_aload_n dX6_takesWord_0 rfl ?_
  refine r_aload_n dX6_takesWord_1 rfl ?_
  refine c_OZ rfl (inv_V (mi := mi_X6_takesWord) (b := 16) (rest := []) (X6_says_ok G hw1 M) rfl (by decide) dX6_takesWord_2 lkm_X6_82 cal_X6_says cX_16 rfl rfl (Nat.le_of_ble_eq_true rfl) rfl) (fun b1 => ?_)
  refine r_ifz_ne (tgt := 14) dX6_takesWord_5 rfl (fun h2 => ?_) (fun h2 => ?_)
  · refine r_aload_n dX6_takesWord_14 rfl ?_
    refine c_OV rfl (inv_V (mi := mi_X6_takesWord) (b := 16) (rest := []) (X6_step_ok G M) rfl (by decide) dX6_takesWord_15 lkm_X6_25 cal_X6_step cX_16 rfl rfl (Nat.le_of_ble_eq_true rfl) rfl) (fun M3 => ?_)
    refine r_iconst (x := 1) dX6_takesWord_18 rfl ?_
    exact r_iret (ty := .boolean) dX6_takesWord_19 rfl rfl rfl
  refine r_aload_n dX6_takesWord_8 rfl ?_
  refine r_iconst (x := 2) dX6_takesWord_9 rfl ?_
  refine c_ZM (inv_V (mi := mi_X6_takesWord) (b := 16) (rest := []) (X6_refuse_ok G 2 M) rfl (by decide) dX6_takesWord_10 lkm_X6_126 cal_X6_refuse cX_16 rfl rfl (Nat.le_of_ble_eq_true rfl) rfl) (fun b4 M5 => ?_)
  exact r_iret (ty := .boolean) dX6_takesWord_13 rfl (b2i_n _) rfl

theorem dX6_takesNumber_0 : decode cX6_takesNumber 0 = .ok (.aload_n 0, 1) := by decide +kernel
theorem dX6_takesNumber_1 : decode cX6_takesNumber 1 = .ok (.getfield 44, 3) := by decide +kernel
theorem dX6_takesNumber_4 : decode cX6_takesNumber 4 = .ok (.iconst 3, 1) := by decide +kernel
theorem dX6_takesNumber_5 : decode cX6_takesNumber 5 = .ok (.if_icmp .eq 9, 3) := by decide +kernel
theorem dX6_takesNumber_8 : decode cX6_takesNumber 8 = .ok (.aload_n 0, 1) := by decide +kernel
theorem dX6_takesNumber_9 : decode cX6_takesNumber 9 = .ok (.iconst 2, 1) := by decide +kernel
theorem dX6_takesNumber_10 : decode cX6_takesNumber 10 = .ok (.invokevirtual 126, 3) := by decide +kernel
theorem dX6_takesNumber_13 : decode cX6_takesNumber 13 = .ok (.ireturn, 1) := by decide +kernel
theorem dX6_takesNumber_14 : decode cX6_takesNumber 14 = .ok (.aload_n 0, 1) := by decide +kernel
theorem dX6_takesNumber_15 : decode cX6_takesNumber 15 = .ok (.getfield 68, 3) := by decide +kernel
theorem dX6_takesNumber_18 : decode cX6_takesNumber 18 = .ok (.iload_n 1, 1) := by decide +kernel
theorem dX6_takesNumber_19 : decode cX6_takesNumber 19 = .ok (.if_icmp .lt 11, 3) := by decide +kernel
theorem dX6_takesNumber_22 : decode cX6_takesNumber 22 = .ok (.aload_n 0, 1) := by decide +kernel
theorem dX6_takesNumber_23 : decode cX6_takesNumber 23 = .ok (.getfield 68, 3) := by decide +kernel
theorem dX6_takesNumber_26 : decode cX6_takesNumber 26 = .ok (.iload_n 2, 1) := by decide +kernel
theorem dX6_takesNumber_27 : decode cX6_takesNumber 27 = .ok (.if_icmp .le 9, 3) := by decide +kernel
theorem dX6_takesNumber_30 : decode cX6_takesNumber 30 = .ok (.aload_n 0, 1) := by decide +kernel
theorem dX6_takesNumber_31 : decode cX6_takesNumber 31 = .ok (.iconst 4, 1) := by decide +kernel
theorem dX6_takesNumber_32 : decode cX6_takesNumber 32 = .ok (.invokevirtual 126, 3) := by decide +kernel
theorem dX6_takesNumber_35 : decode cX6_takesNumber 35 = .ok (.ireturn, 1) := by decide +kernel
theorem dX6_takesNumber_36 : decode cX6_takesNumber 36 = .ok (.aload_n 0, 1) := by decide +kernel
theorem dX6_takesNumber_37 : decode cX6_takesNumber 37 = .ok (.aload_n 0, 1) := by decide +kernel
theorem dX6_takesNumber_38 : decode cX6_takesNumber 38 = .ok (.getfield 68, 3) := by decide +kernel
theorem dX6_takesNumber_41 : decode cX6_takesNumber 41 = .ok (.putfield 129, 3) := by decide +kernel
theorem dX6_takesNumber_44 : decode cX6_takesNumber 44 = .ok (.aload_n 0, 1) := by decide +kernel
theorem dX6_takesNumber_45 : decode cX6_takesNumber 45 = .ok (.invokevirtual 25, 3) := by decide +kernel
theorem dX6_takesNumber_48 : decode cX6_takesNumber 48 = .ok (.iconst 1, 1) := by decide +kernel
theorem dX6_takesNumber_49 : decode cX6_takesNumber 49 = .ok (.ireturn, 1) := by decide +kernel
abbrev mi_X6_takesNumber : MI := (zTX, RX6, yX6_takesNumber, cX6_takesNumber, 3, (some .boolean), 5)
theorem cal_X6_takesNumber : zCalV mi_X6_takesNumber 2 := ⟨⟨zTB_i3 136 (by decide +kernel), zTB_i3 134 (by decide +kernel), zTB_i3 135 (by decide +kernel), zTB_i1 6 (by decide +kernel)⟩, ⟨by decide, by decide, by decide +kernel⟩, by decide⟩
noncomputable def X6_takesNumber (x1 : Int32) (x2 : Int32) (M : Mem) : Option (Bool × Mem) :=
  if (M.1 16 1) = 3 then
    l1_ (α := Bool) (
      if (M.1 16 3) < x1 then
        true
      else
      if (M.1 16 3) ≤ x2 then
        false
      else
      true) fun t4 =>
    if t4 = true then
      lp_ (X6_refuse 4 M) fun b6 M7 =>
      some (b6, M7)
    else
    lt_ (uI M 16 4 (M.1 16 3)) fun M8 =>
    bo_ (X6_step M8) fun M9 =>
    some (true, M9)
  else
  lp_ (X6_refuse 2 M) fun b10 M11 =>
  some (b10, M11)
set_option maxRecDepth 100000 in
set_option maxHeartbeats 4000000 in
theorem X6_takesNumber_ok (G : Gh) (x1 : Int32) (x2 : Int32) (M : Mem) : Mt G mi_X6_takesNumber [.ref (G.2.2.2 (16)), .int x1, .int x2] M ((dO dZM) (X6_takesNumber x1 x2 M)) := by
  refine Mt_of (lv := [some (.ref (G.2.2.2 (16))), some (.int x1), some (.int x2)]) (by decide) rfl (Nat.le_of_ble_eq_true rfl) rfl ?_
  unfold X6_takesNumber
  refine r_aload_n dX6_takesNumber_0 rfl ?_
  refine r_getf (v := .int (M.1 16 1)) dX6_takesNumber_1 fX_16_1 kX6 (by decide) lkf_X6_44 rfl ?_
  refine r_iconst (x := 3) dX6_takesNumber_4 rfl ?_
  refine r_icmp_eq (tgt := 14) dX6_takesNumber_5 rfl (fun h1 => ?_) (fun h1 => ?_)
  · refine r_aload_n dX6_takesNumber_14 rfl ?_
    refine r_getf (v := .int (M.1 16 3)) dX6_takesNumber_15 fX_16_3 kX6 (by decide) lkf_X6_68 rfl ?_
    refine r_iload_n dX6_takesNumber_18 rfl ?_
    refine r_cL (jX := 30) (jY := 36) (lvX := [some (.ref (G.2.2.2 (16))), none, none]) (lvY := [some (.ref (G.2.2.2 (16))), none, none]) (stX := []) (M1 := M) (fun h5 => ?_) (fun h5 => ?_) (fun hX30 hY36 => ?_)
    · refine r_eq (if_pos rfl) ?_
      refine r_aload_n dX6_takesNumber_30 rfl ?_
      refine r_iconst (x := 4) dX6_takesNumber_31 rfl ?_
      refine c_ZM (inv_V (mi := mi_X6_takesNumber) (b := 16) (rest := []) (X6_refuse_ok G 4 M) rfl (by decide) dX6_takesNumber_32 lkm_X6_126 cal_X6_refuse cX_16 rfl rfl (Nat.le_of_ble_eq_true rfl) rfl) (fun b6 M7 => ?_)
      exact r_iret (ty := .boolean) dX6_takesNumber_35 rfl (b2i_n _) rfl
    · refine r_eq (if_neg (by decide)) ?_
      refine r_aload_n dX6_takesNumber_36 rfl ?_
      refine r_aload_n dX6_takesNumber_37 rfl ?_
      refine r_getf (v := .int (M.1 16 3)) dX6_takesNumber_38 fX_16_3 kX6 (by decide) lkf_X6_68 rfl ?_
      refine r_putI dX6_takesNumber_41 fX_16_4 kX6 (by decide) rfl rfl lkf_X6_129 (fun _ => rfl) rfl rfl (fun M8 => ?_)
      refine r_aload_n dX6_takesNumber_44 rfl ?_
      refine c_OV rfl (inv_V (mi := mi_X6_takesNumber) (b := 16) (rest := []) (X6_step_ok G M8) rfl (by decide) dX6_takesNumber_45 lkm_X6_25 cal_X6_step cX_16 rfl rfl (Nat.le_of_ble_eq_true rfl) rfl) (fun M9 => ?_)
      refine r_iconst (x := 1) dX6_takesNumber_48 rfl ?_
      exact r_iret (ty := .boolean) dX6_takesNumber_49 rfl rfl rfl
    refine r_icmp_lt (tgt := 30) dX6_takesNumber_19 rfl (fun h2 => ?_) (fun h2 => ?_)
    · exact r_lk hX30 (And.intro rfl True.intro)
    refine r_aload_n dX6_takesNumber_22 rfl ?_
    refine r_getf (v := .int (M.1 16 3)) dX6_takesNumber_23 fX_16_3 kX6 (by decide) lkf_X6_68 rfl ?_
    refine r_iload_n dX6_takesNumber_26 rfl ?_
    refine r_icmp_le (tgt := 36) dX6_takesNumber_27 rfl (fun h3 => ?_) (fun h3 => ?_)
    · exact r_lk hY36 (And.intro rfl True.intro)
    exact r_lk hX30 (And.intro rfl True.intro)
  refine r_aload_n dX6_takesNumber_8 rfl ?_
  refine r_iconst (x := 2) dX6_takesNumber_9 rfl ?_
  refine c_ZM (inv_V (mi := mi_X6_takesNumber) (b := 16) (rest := []) (X6_refuse_ok G 2 M) rfl (by decide) dX6_takesNumber_10 lkm_X6_126 cal_X6_refuse cX_16 rfl rfl (Nat.le_of_ble_eq_true rfl) rfl) (fun b10 M11 => ?_)
  exact r_iret (ty := .boolean) dX6_takesNumber_13 rfl (b2i_n _) rfl

