theorem dX12_feed_0 : decode cX12_feed 0 = .ok (.aload_n 0, 1) := by decide +kernel
theorem dX12_feed_1 : decode cX12_feed 1 = .ok (.getfield 298, 3) := by decide +kernel
theorem dX12_feed_4 : decode cX12_feed 4 = .ok (.bipush 20, 2) := by decide +kernel
theorem dX12_feed_6 : decode cX12_feed 6 = .ok (.iadd, 1) := by decide +kernel
theorem dX12_feed_7 : decode cX12_feed 7 = .ok (.sipush 1600, 3) := by decide +kernel
theorem dX12_feed_10 : decode cX12_feed 10 = .ok (.if_icmp .le 5, 3) := by decide +kernel
theorem dX12_feed_13 : decode cX12_feed 13 = .ok (.iconst (-1), 1) := by decide +kernel
theorem dX12_feed_14 : decode cX12_feed 14 = .ok (.ireturn, 1) := by decide +kernel
theorem dX12_feed_15 : decode cX12_feed 15 = .ok (.iconst 0, 1) := by decide +kernel
theorem dX12_feed_16 : decode cX12_feed 16 = .ok (.istore 6, 2) := by decide +kernel
theorem dX12_feed_18 : decode cX12_feed 18 = .ok (.iload 6, 2) := by decide +kernel
theorem dX12_feed_20 : decode cX12_feed 20 = .ok (.bipush 20, 2) := by decide +kernel
theorem dX12_feed_22 : decode cX12_feed 22 = .ok (.if_icmp .ge 83, 3) := by decide +kernel
theorem dX12_feed_25 : decode cX12_feed 25 = .ok (.iload 6, 2) := by decide +kernel
theorem dX12_feed_27 : decode cX12_feed 27 = .ok (.iconst 4, 1) := by decide +kernel
theorem dX12_feed_28 : decode cX12_feed 28 = .ok (.if_icmp .ge 7, 3) := by decide +kernel
theorem dX12_feed_31 : decode cX12_feed 31 = .ok (.iload_n 1, 1) := by decide +kernel
theorem dX12_feed_32 : decode cX12_feed 32 = .ok (.goto 39, 3) := by decide +kernel
theorem dX12_feed_35 : decode cX12_feed 35 = .ok (.iload 6, 2) := by decide +kernel
theorem dX12_feed_37 : decode cX12_feed 37 = .ok (.bipush 8, 2) := by decide +kernel
theorem dX12_feed_39 : decode cX12_feed 39 = .ok (.if_icmp .ge 7, 3) := by decide +kernel
theorem dX12_feed_42 : decode cX12_feed 42 = .ok (.iload_n 2, 1) := by decide +kernel
theorem dX12_feed_43 : decode cX12_feed 43 = .ok (.goto 28, 3) := by decide +kernel
theorem dX12_feed_46 : decode cX12_feed 46 = .ok (.iload 6, 2) := by decide +kernel
theorem dX12_feed_48 : decode cX12_feed 48 = .ok (.bipush 12, 2) := by decide +kernel
theorem dX12_feed_50 : decode cX12_feed 50 = .ok (.if_icmp .ge 7, 3) := by decide +kernel
theorem dX12_feed_53 : decode cX12_feed 53 = .ok (.iload_n 3, 1) := by decide +kernel
theorem dX12_feed_54 : decode cX12_feed 54 = .ok (.goto 17, 3) := by decide +kernel
theorem dX12_feed_57 : decode cX12_feed 57 = .ok (.iload 6, 2) := by decide +kernel
theorem dX12_feed_59 : decode cX12_feed 59 = .ok (.bipush 16, 2) := by decide +kernel
theorem dX12_feed_61 : decode cX12_feed 61 = .ok (.if_icmp .ge 8, 3) := by decide +kernel
theorem dX12_feed_64 : decode cX12_feed 64 = .ok (.iload 4, 2) := by decide +kernel
theorem dX12_feed_66 : decode cX12_feed 66 = .ok (.goto 5, 3) := by decide +kernel
theorem dX12_feed_69 : decode cX12_feed 69 = .ok (.iload 5, 2) := by decide +kernel
theorem dX12_feed_71 : decode cX12_feed 71 = .ok (.istore 7, 2) := by decide +kernel
theorem dX12_feed_73 : decode cX12_feed 73 = .ok (.aload_n 0, 1) := by decide +kernel
theorem dX12_feed_74 : decode cX12_feed 74 = .ok (.getfield 7, 3) := by decide +kernel
theorem dX12_feed_77 : decode cX12_feed 77 = .ok (.aload_n 0, 1) := by decide +kernel
theorem dX12_feed_78 : decode cX12_feed 78 = .ok (.getfield 298, 3) := by decide +kernel
theorem dX12_feed_81 : decode cX12_feed 81 = .ok (.iload 6, 2) := by decide +kernel
theorem dX12_feed_83 : decode cX12_feed 83 = .ok (.iadd, 1) := by decide +kernel
theorem dX12_feed_84 : decode cX12_feed 84 = .ok (.iload 7, 2) := by decide +kernel
theorem dX12_feed_86 : decode cX12_feed 86 = .ok (.bipush 24, 2) := by decide +kernel
theorem dX12_feed_88 : decode cX12_feed 88 = .ok (.bipush 8, 2) := by decide +kernel
theorem dX12_feed_90 : decode cX12_feed 90 = .ok (.iload 6, 2) := by decide +kernel
theorem dX12_feed_92 : decode cX12_feed 92 = .ok (.iconst 3, 1) := by decide +kernel
theorem dX12_feed_93 : decode cX12_feed 93 = .ok (.iand, 1) := by decide +kernel
theorem dX12_feed_94 : decode cX12_feed 94 = .ok (.imul, 1) := by decide +kernel
theorem dX12_feed_95 : decode cX12_feed 95 = .ok (.isub, 1) := by decide +kernel
theorem dX12_feed_96 : decode cX12_feed 96 = .ok (.ishr, 1) := by decide +kernel
theorem dX12_feed_97 : decode cX12_feed 97 = .ok (.i2b, 1) := by decide +kernel
theorem dX12_feed_98 : decode cX12_feed 98 = .ok (.bastore, 1) := by decide +kernel
theorem dX12_feed_99 : decode cX12_feed 99 = .ok (.iinc 6 1, 3) := by decide +kernel
theorem dX12_feed_102 : decode cX12_feed 102 = .ok (.goto (-84), 3) := by decide +kernel
theorem dX12_feed_105 : decode cX12_feed 105 = .ok (.aload_n 0, 1) := by decide +kernel
theorem dX12_feed_106 : decode cX12_feed 106 = .ok (.dup, 1) := by decide +kernel
theorem dX12_feed_107 : decode cX12_feed 107 = .ok (.getfield 298, 3) := by decide +kernel
theorem dX12_feed_110 : decode cX12_feed 110 = .ok (.bipush 20, 2) := by decide +kernel
theorem dX12_feed_112 : decode cX12_feed 112 = .ok (.iadd, 1) := by decide +kernel
theorem dX12_feed_113 : decode cX12_feed 113 = .ok (.putfield 298, 3) := by decide +kernel
theorem dX12_feed_116 : decode cX12_feed 116 = .ok (.aload_n 0, 1) := by decide +kernel
theorem dX12_feed_117 : decode cX12_feed 117 = .ok (.getfield 298, 3) := by decide +kernel
theorem dX12_feed_120 : decode cX12_feed 120 = .ok (.ireturn, 1) := by decide +kernel
abbrev mi_X12_feed : MI := (zTM, RX12, yX12_feed, cX12_feed, 8, (some .int), 2)
theorem cal_X12_feed : zCalV mi_X12_feed 5 := ⟨⟨zTB_i9 132 (by decide +kernel), zTB_i9 130 (by decide +kernel), zTB_i9 131 (by decide +kernel), zTB_i1 13 (by decide +kernel)⟩, ⟨by decide, by decide, by decide +kernel⟩, by decide⟩
noncomputable def X12_feed_L1 (x1 : Int32) (x2 : Int32) (x3 : Int32) (x4 : Int32) (x5 : Int32) : Nat → Int32 → Mem → Option (Mem)
  | 0, _, _ => none
  | n + 1, c6, M =>
    if 20 ≤ c6 then
      some M
    else
    l1_ (α := Int32) (
      if 4 ≤ c6 then
        if 8 ≤ c6 then
          if 12 ≤ c6 then
            if 16 ≤ c6 then
              x5
            else
            x4
          else
          x3
        else
        x2
      else
      x1) fun y7 =>
    gd_ (inb ((M.1 0 2) + c6) (1620) = true) (
    lt_ (uI M 1 (((M.1 0 2) + c6).toNatClampNeg) ((y7 >>> ((24 - (8 * (c6 &&& 3))) &&& 31)).toInt8.toInt32)) fun M9 =>
    X12_feed_L1 x1 x2 x3 x4 x5 n (c6 + 1) M9)
noncomputable def X12_feed (x1 : Int32) (x2 : Int32) (x3 : Int32) (x4 : Int32) (x5 : Int32) (M : Mem) : Option (Int32 × Mem) :=
  if ((M.1 0 2) + 20) ≤ 1600 then
    b1_ (α := Mem) (X12_feed_L1 x1 x2 x3 x4 x5 zFU 0 M) fun M10 =>
    lt_ (uI M10 0 2 ((M10.1 0 2) + 20)) fun M11 =>
    some (M11.1 0 2, M11)
  else
  some ((-1), M)
set_option maxRecDepth 100000 in
set_option maxHeartbeats 4000000 in
theorem X12_feed_L1_ok (G : Gh) (x1 : Int32) (x2 : Int32) (x3 : Int32) (x4 : Int32) (x5 : Int32) {dn : Option (Mem) → Option (Option Value × Mem)} (hs : dn none = none) (hx : ∀ (M10 : Mem), Wr G mi_X12_feed dn 105 [some (.ref (G.2.2.2 (0))), none, none, none, none, none, none, none] [] M10 (some M10)) : ∀ (n : Nat) (c6 : Int32) (M : Mem), Wr G mi_X12_feed dn 18 [some (.ref (G.2.2.2 (0))), some (.int x1), some (.int x2), some (.int x3), some (.int x4), some (.int x5), some (.int c6), none] [] M (X12_feed_L1 x1 x2 x3 x4 x5 n c6 M) := by
  intro n
  induction n with
  | zero => intro c6 M; exact r_none (by exact hs)
  | succ n ih =>
    intro c6 M
    rw [X12_feed_L1]
    refine r_iload dX12_feed_18 rfl ?_
    refine r_bipush (x := 20) dX12_feed_20 rfl ?_
    refine r_icmp_ge (tgt := 105) dX12_feed_22 rfl (fun h2 => ?_) (fun h2 => ?_)
    · exact r_lk (hx M) (And.intro rfl True.intro)
    refine r_iload dX12_feed_25 rfl ?_
    refine r_iconst (x := 4) dX12_feed_27 rfl ?_
    refine r_jL1 (j := 71) (lvj := fun y7 => [some (.ref (G.2.2.2 (0))), some (.int x1), some (.int x2), some (.int x3), some (.int x4), some (.int x5), some (.int c6), none]) (stj := fun y7 => [.int y7]) (Mj := fun y7 => M) (fun y7 => ?_) (fun hj71 => ?_)
    · refine r_istore (lv' := [some (.ref (G.2.2.2 (0))), some (.int x1), some (.int x2), some (.int x3), some (.int x4), some (.int x5), some (.int c6), some (.int y7)]) dX12_feed_71 (Nat.le_of_ble_eq_true rfl) rfl rfl ?_
      refine r_aload_n dX12_feed_73 rfl ?_
      refine r_getf (v := .ref (G.2.2.2 (1))) dX12_feed_74 fM_0_0 kX12 (by decide) lkf_X12_7 rfl ?_
      refine r_aload_n dX12_feed_77 rfl ?_
      refine r_getf (v := .int (M.1 0 2)) dX12_feed_78 fM_0_2 kX12 (by decide) lkf_X12_298 rfl ?_
      refine r_iload dX12_feed_81 rfl ?_
      refine r_iadd dX12_feed_83 ?_
      refine r_iload dX12_feed_84 rfl ?_
      refine r_bipush (x := 24) dX12_feed_86 rfl ?_
      refine r_bipush (x := 8) dX12_feed_88 rfl ?_
      refine r_iload dX12_feed_90 rfl ?_
      refine r_iconst (x := 3) dX12_feed_92 rfl ?_
      refine r_iand dX12_feed_93 ?_
      refine r_imul dX12_feed_94 ?_
      refine r_isub dX12_feed_95 ?_
      refine r_ishr dX12_feed_96 ?_
      refine r_i2b dX12_feed_97 ?_
      refine r_gd (by exact hs) (fun g8 => ?_)
      refine r_bast dX12_feed_98 aM_1 (inb_in g8) rfl (y := (y7 >>> ((24 - (8 * (c6 &&& 3))) &&& 31)).toInt8.toInt32) (zb2 _) (fun M9 => ?_)
      refine r_iinc (y := c6 + 1) (lv' := [some (.ref (G.2.2.2 (0))), some (.int x1), some (.int x2), some (.int x3), some (.int x4), some (.int x5), some (.int (c6 + 1)), some (.int y7)]) dX12_feed_99 rfl rfl (Nat.le_of_ble_eq_true rfl) rfl rfl ?_
      refine r_goto (tgt := 18) dX12_feed_102 rfl ?_
      exact r_lk (ih (c6 + 1) M9) (And.intro rfl (And.intro rfl (And.intro rfl (And.intro rfl (And.intro rfl (And.intro rfl (And.intro rfl True.intro)))))))
    refine r_icmp_ge (tgt := 35) dX12_feed_28 rfl (fun h3 => ?_) (fun h3 => ?_)
    · refine r_iload dX12_feed_35 rfl ?_
      refine r_bipush (x := 8) dX12_feed_37 rfl ?_
      refine r_icmp_ge (tgt := 46) dX12_feed_39 rfl (fun h4 => ?_) (fun h4 => ?_)
      · refine r_iload dX12_feed_46 rfl ?_
        refine r_bipush (x := 12) dX12_feed_48 rfl ?_
        refine r_icmp_ge (tgt := 57) dX12_feed_50 rfl (fun h5 => ?_) (fun h5 => ?_)
        · refine r_iload dX12_feed_57 rfl ?_
          refine r_bipush (x := 16) dX12_feed_59 rfl ?_
          refine r_icmp_ge (tgt := 69) dX12_feed_61 rfl (fun h6 => ?_) (fun h6 => ?_)
          · refine r_iload dX12_feed_69 rfl ?_
            exact r_lk (hj71 x5) (And.intro rfl (And.intro rfl (And.intro rfl (And.intro rfl (And.intro rfl (And.intro rfl (And.intro rfl True.intro)))))))
          refine r_iload dX12_feed_64 rfl ?_
          refine r_goto (tgt := 71) dX12_feed_66 rfl ?_
          exact r_lk (hj71 x4) (And.intro rfl (And.intro rfl (And.intro rfl (And.intro rfl (And.intro rfl (And.intro rfl (And.intro rfl True.intro)))))))
        refine r_iload_n dX12_feed_53 rfl ?_
        refine r_goto (tgt := 71) dX12_feed_54 rfl ?_
        exact r_lk (hj71 x3) (And.intro rfl (And.intro rfl (And.intro rfl (And.intro rfl (And.intro rfl (And.intro rfl (And.intro rfl True.intro)))))))
      refine r_iload_n dX12_feed_42 rfl ?_
      refine r_goto (tgt := 71) dX12_feed_43 rfl ?_
      exact r_lk (hj71 x2) (And.intro rfl (And.intro rfl (And.intro rfl (And.intro rfl (And.intro rfl (And.intro rfl (And.intro rfl True.intro)))))))
    refine r_iload_n dX12_feed_31 rfl ?_
    refine r_goto (tgt := 71) dX12_feed_32 rfl ?_
    exact r_lk (hj71 x1) (And.intro rfl (And.intro rfl (And.intro rfl (And.intro rfl (And.intro rfl (And.intro rfl (And.intro rfl True.intro)))))))
set_option maxRecDepth 100000 in
set_option maxHeartbeats 4000000 in
theorem X12_feed_ok (G : Gh) (x1 : Int32) (x2 : Int32) (x3 : Int32) (x4 : Int32) (x5 : Int32) (M : Mem) : Mt G mi_X12_feed [.ref (G.2.2.2 (0)), .int x1, .int x2, .int x3, .int x4, .int x5] M ((dO dIM) (X12_feed x1 x2 x3 x4 x5 M)) := by
  refine Mt_of (lv := [some (.ref (G.2.2.2 (0))), some (.int x1), some (.int x2), some (.int x3), some (.int x4), some (.int x5)]) (by decide) rfl (Nat.le_of_ble_eq_true rfl) rfl ?_
  refine r_le (lv' := [some (.ref (G.2.2.2 (0))), some (.int x1), some (.int x2), some (.int x3), some (.int x4), some (.int x5), none, none]) (And.intro rfl (And.intro rfl (And.intro rfl (And.intro rfl (And.intro rfl (And.intro rfl True.intro)))))) ?_
  unfold X12_feed
  refine r_aload_n dX12_feed_0 rfl ?_
  refine r_getf (v := .int (M.1 0 2)) dX12_feed_1 fM_0_2 kX12 (by decide) lkf_X12_298 rfl ?_
  refine r_bipush (x := 20) dX12_feed_4 rfl ?_
  refine r_iadd dX12_feed_6 ?_
  refine r_sipush (x := 1600) dX12_feed_7 rfl ?_
  refine r_icmp_le (tgt := 15) dX12_feed_10 rfl (fun h1 => ?_) (fun h1 => ?_)
  · refine r_iconst (x := 0) dX12_feed_15 rfl ?_
    refine r_istore (lv' := [some (.ref (G.2.2.2 (0))), some (.int x1), some (.int x2), some (.int x3), some (.int x4), some (.int x5), some (.int 0), none]) dX12_feed_16 (Nat.le_of_ble_eq_true rfl) rfl rfl ?_
    refine r_jB1 (j := 105) (lvj := fun M10 => [some (.ref (G.2.2.2 (0))), none, none, none, none, none, none, none]) (stj := fun M10 => []) (Mj := fun M10 => M10) (fun M10 => ?_) (fun hj105 => ?_)
    · refine r_aload_n dX12_feed_105 rfl ?_
      refine r_dup dX12_feed_106 rfl ?_
      refine r_getf (v := .int (M10.1 0 2)) dX12_feed_107 fM_0_2 kX12 (by decide) lkf_X12_298 rfl ?_
      refine r_bipush (x := 20) dX12_feed_110 rfl ?_
      refine r_iadd dX12_feed_112 ?_
      refine r_putI dX12_feed_113 fM_0_2 kX12 (by decide) rfl rfl lkf_X12_298 (fun _ => rfl) rfl rfl (fun M11 => ?_)
      refine r_aload_n dX12_feed_116 rfl ?_
      refine r_getf (v := .int (M11.1 0 2)) dX12_feed_117 fM_0_2 kX12 (by decide) lkf_X12_298 rfl ?_
      exact r_iret (ty := .int) dX12_feed_120 rfl rfl rfl
    exact r_lk (X12_feed_L1_ok G x1 x2 x3 x4 x5 rfl hj105 zFU 0 M) (And.intro rfl (And.intro rfl (And.intro rfl (And.intro rfl (And.intro rfl (And.intro rfl (And.intro rfl True.intro)))))))
  refine r_iconst (x := (-1)) dX12_feed_13 rfl ?_
  exact r_iret (ty := .int) dX12_feed_14 rfl rfl rfl

theorem dX12_end_0 : decode cX12_end 0 = .ok (.iload_n 1, 1) := by decide +kernel
theorem dX12_end_1 : decode cX12_end 1 = .ok (.ifCond .lt 11, 3) := by decide +kernel
theorem dX12_end_4 : decode cX12_end 4 = .ok (.iload_n 1, 1) := by decide +kernel
theorem dX12_end_5 : decode cX12_end 5 = .ok (.aload_n 0, 1) := by decide +kernel
theorem dX12_end_6 : decode cX12_end 6 = .ok (.getfield 298, 3) := by decide +kernel
theorem dX12_end_9 : decode cX12_end 9 = .ok (.if_icmp .le 5, 3) := by decide +kernel
theorem dX12_end_12 : decode cX12_end 12 = .ok (.iconst (-1), 1) := by decide +kernel
theorem dX12_end_13 : decode cX12_end 13 = .ok (.ireturn, 1) := by decide +kernel
theorem dX12_end_14 : decode cX12_end 14 = .ok (.aload_n 0, 1) := by decide +kernel
theorem dX12_end_15 : decode cX12_end 15 = .ok (.iload_n 1, 1) := by decide +kernel
theorem dX12_end_16 : decode cX12_end 16 = .ok (.putfield 298, 3) := by decide +kernel
theorem dX12_end_19 : decode cX12_end 19 = .ok (.iload_n 1, 1) := by decide +kernel
theorem dX12_end_20 : decode cX12_end 20 = .ok (.ireturn, 1) := by decide +kernel
abbrev mi_X12_end : MI := (zTM, RX12, yX12_end, cX12_end, 2, (some .int), 2)
theorem cal_X12_end : zCalV mi_X12_end 1 := ⟨⟨zTB_i9 136 (by decide +kernel), zTB_i9 134 (by decide +kernel), zTB_i9 135 (by decide +kernel), zTB_i1 13 (by decide +kernel)⟩, ⟨by decide, by decide, by decide +kernel⟩, by decide⟩
noncomputable def X12_end (x1 : Int32) (M : Mem) : Int32 × Mem :=
  if x1 < 0 then
    ((-1), M)
  else
  if x1 ≤ (M.1 0 2) then
    lt_ (uI M 0 2 x1) fun M3 =>
    (x1, M3)
  else
  ((-1), M)
set_option maxRecDepth 100000 in
set_option maxHeartbeats 4000000 in
theorem X12_end_ok (G : Gh) (x1 : Int32) (M : Mem) : Mt G mi_X12_end [.ref (G.2.2.2 (0)), .int x1] M (dIM (X12_end x1 M)) := by
  refine Mt_of (lv := [some (.ref (G.2.2.2 (0))), some (.int x1)]) (by decide) rfl (Nat.le_of_ble_eq_true rfl) rfl ?_
  unfold X12_end
  refine r_iload_n dX12_end_0 rfl ?_
  refine r_if_lt (tgt := 12) dX12_end_1 rfl (fun h1 => ?_) (fun h1 => ?_)
  · refine r_iconst (x := (-1)) dX12_end_12 rfl ?_
    exact r_iret (ty := .int) dX12_end_13 rfl rfl rfl
  refine r_iload_n dX12_end_4 rfl ?_
  refine r_aload_n dX12_end_5 rfl ?_
  refine r_getf (v := .int (M.1 0 2)) dX12_end_6 fM_0_2 kX12 (by decide) lkf_X12_298 rfl ?_
  refine r_icmp_le (tgt := 14) dX12_end_9 rfl (fun h2 => ?_) (fun h2 => ?_)
  · refine r_aload_n dX12_end_14 rfl ?_
    refine r_iload_n dX12_end_15 rfl ?_
    refine r_putI dX12_end_16 fM_0_2 kX12 (by decide) rfl rfl lkf_X12_298 (fun _ => rfl) rfl rfl (fun M3 => ?_)
    refine r_iload_n dX12_end_19 rfl ?_
    exact r_iret (ty := .int) dX12_end_20 rfl rfl rfl
  refine r_iconst (x := (-1)) dX12_end_12 rfl ?_
  exact r_iret (ty := .int) dX12_end_13 rfl rfl rfl

theorem dX12_clearBank_0 : decode cX12_clearBank 0 = .ok (.aload_n 0, 1) := by decide +kernel
theorem dX12_clearBank_1 : decode cX12_clearBank 1 = .ok (.getfield 20, 3) := by decide +kernel
theorem dX12_clearBank_4 : decode cX12_clearBank 4 = .ok (.aload_n 0, 1) := by decide +kernel
theorem dX12_clearBank_5 : decode cX12_clearBank 5 = .ok (.getfield 292, 3) := by decide +kernel
theorem dX12_clearBank_8 : decode cX12_clearBank 8 = .ok (.iconst 0, 1) := by decide +kernel
theorem dX12_clearBank_9 : decode cX12_clearBank 9 = .ok (.iastore, 1) := by decide +kernel
theorem dX12_clearBank_10 : decode cX12_clearBank 10 = .ok (.aload_n 0, 1) := by decide +kernel
theorem dX12_clearBank_11 : decode cX12_clearBank 11 = .ok (.getfield 24, 3) := by decide +kernel
theorem dX12_clearBank_14 : decode cX12_clearBank 14 = .ok (.aload_n 0, 1) := by decide +kernel
theorem dX12_clearBank_15 : decode cX12_clearBank 15 = .ok (.getfield 292, 3) := by decide +kernel
theorem dX12_clearBank_18 : decode cX12_clearBank 18 = .ok (.iconst 0, 1) := by decide +kernel
theorem dX12_clearBank_19 : decode cX12_clearBank 19 = .ok (.iastore, 1) := by decide +kernel
theorem dX12_clearBank_20 : decode cX12_clearBank 20 = .ok (.aload_n 0, 1) := by decide +kernel
theorem dX12_clearBank_21 : decode cX12_clearBank 21 = .ok (.getfield 27, 3) := by decide +kernel
theorem dX12_clearBank_24 : decode cX12_clearBank 24 = .ok (.aload_n 0, 1) := by decide +kernel
theorem dX12_clearBank_25 : decode cX12_clearBank 25 = .ok (.getfield 292, 3) := by decide +kernel
theorem dX12_clearBank_28 : decode cX12_clearBank 28 = .ok (.iconst 0, 1) := by decide +kernel
theorem dX12_clearBank_29 : decode cX12_clearBank 29 = .ok (.iastore, 1) := by decide +kernel
theorem dX12_clearBank_30 : decode cX12_clearBank 30 = .ok (.aload_n 0, 1) := by decide +kernel
theorem dX12_clearBank_31 : decode cX12_clearBank 31 = .ok (.getfield 30, 3) := by decide +kernel
theorem dX12_clearBank_34 : decode cX12_clearBank 34 = .ok (.aload_n 0, 1) := by decide +kernel
theorem dX12_clearBank_35 : decode cX12_clearBank 35 = .ok (.getfield 292, 3) := by decide +kernel
theorem dX12_clearBank_38 : decode cX12_clearBank 38 = .ok (.iconst 0, 1) := by decide +kernel
theorem dX12_clearBank_39 : decode cX12_clearBank 39 = .ok (.iastore, 1) := by decide +kernel
theorem dX12_clearBank_40 : decode cX12_clearBank 40 = .ok (.aload_n 0, 1) := by decide +kernel
theorem dX12_clearBank_41 : decode cX12_clearBank 41 = .ok (.getfield 33, 3) := by decide +kernel
theorem dX12_clearBank_44 : decode cX12_clearBank 44 = .ok (.aload_n 0, 1) := by decide +kernel
theorem dX12_clearBank_45 : decode cX12_clearBank 45 = .ok (.getfield 292, 3) := by decide +kernel
theorem dX12_clearBank_48 : decode cX12_clearBank 48 = .ok (.iconst 0, 1) := by decide +kernel
theorem dX12_clearBank_49 : decode cX12_clearBank 49 = .ok (.iastore, 1) := by decide +kernel
theorem dX12_clearBank_50 : decode cX12_clearBank 50 = .ok (.aload_n 0, 1) := by decide +kernel
theorem dX12_clearBank_51 : decode cX12_clearBank 51 = .ok (.getfield 36, 3) := by decide +kernel
theorem dX12_clearBank_54 : decode cX12_clearBank 54 = .ok (.aload_n 0, 1) := by decide +kernel
theorem dX12_clearBank_55 : decode cX12_clearBank 55 = .ok (.getfield 292, 3) := by decide +kernel
theorem dX12_clearBank_58 : decode cX12_clearBank 58 = .ok (.bipush 6, 2) := by decide +kernel
theorem dX12_clearBank_60 : decode cX12_clearBank 60 = .ok (.iastore, 1) := by decide +kernel
theorem dX12_clearBank_61 : decode cX12_clearBank 61 = .ok (.aload_n 0, 1) := by decide +kernel
theorem dX12_clearBank_62 : decode cX12_clearBank 62 = .ok (.getfield 39, 3) := by decide +kernel
theorem dX12_clearBank_65 : decode cX12_clearBank 65 = .ok (.aload_n 0, 1) := by decide +kernel
theorem dX12_clearBank_66 : decode cX12_clearBank 66 = .ok (.getfield 292, 3) := by decide +kernel
theorem dX12_clearBank_69 : decode cX12_clearBank 69 = .ok (.iconst 0, 1) := by decide +kernel
theorem dX12_clearBank_70 : decode cX12_clearBank 70 = .ok (.iastore, 1) := by decide +kernel
theorem dX12_clearBank_71 : decode cX12_clearBank 71 = .ok (.aload_n 0, 1) := by decide +kernel
theorem dX12_clearBank_72 : decode cX12_clearBank 72 = .ok (.getfield 42, 3) := by decide +kernel
theorem dX12_clearBank_75 : decode cX12_clearBank 75 = .ok (.aload_n 0, 1) := by decide +kernel
theorem dX12_clearBank_76 : decode cX12_clearBank 76 = .ok (.getfield 292, 3) := by decide +kernel
theorem dX12_clearBank_79 : decode cX12_clearBank 79 = .ok (.iconst 0, 1) := by decide +kernel
theorem dX12_clearBank_80 : decode cX12_clearBank 80 = .ok (.iastore, 1) := by decide +kernel
theorem dX12_clearBank_81 : decode cX12_clearBank 81 = .ok (.aload_n 0, 1) := by decide +kernel
theorem dX12_clearBank_82 : decode cX12_clearBank 82 = .ok (.getfield 45, 3) := by decide +kernel
theorem dX12_clearBank_85 : decode cX12_clearBank 85 = .ok (.aload_n 0, 1) := by decide +kernel
theorem dX12_clearBank_86 : decode cX12_clearBank 86 = .ok (.getfield 292, 3) := by decide +kernel
theorem dX12_clearBank_89 : decode cX12_clearBank 89 = .ok (.iconst 0, 1) := by decide +kernel
theorem dX12_clearBank_90 : decode cX12_clearBank 90 = .ok (.iastore, 1) := by decide +kernel
theorem dX12_clearBank_91 : decode cX12_clearBank 91 = .ok (.aload_n 0, 1) := by decide +kernel
theorem dX12_clearBank_92 : decode cX12_clearBank 92 = .ok (.getfield 81, 3) := by decide +kernel
theorem dX12_clearBank_95 : decode cX12_clearBank 95 = .ok (.aload_n 0, 1) := by decide +kernel
theorem dX12_clearBank_96 : decode cX12_clearBank 96 = .ok (.getfield 292, 3) := by decide +kernel
theorem dX12_clearBank_99 : decode cX12_clearBank 99 = .ok (.iconst 0, 1) := by decide +kernel
theorem dX12_clearBank_100 : decode cX12_clearBank 100 = .ok (.bastore, 1) := by decide +kernel
theorem dX12_clearBank_101 : decode cX12_clearBank 101 = .ok (.aload_n 0, 1) := by decide +kernel
theorem dX12_clearBank_102 : decode cX12_clearBank 102 = .ok (.getfield 85, 3) := by decide +kernel
theorem dX12_clearBank_105 : decode cX12_clearBank 105 = .ok (.aload_n 0, 1) := by decide +kernel
theorem dX12_clearBank_106 : decode cX12_clearBank 106 = .ok (.getfield 292, 3) := by decide +kernel
theorem dX12_clearBank_109 : decode cX12_clearBank 109 = .ok (.iconst 0, 1) := by decide +kernel
theorem dX12_clearBank_110 : decode cX12_clearBank 110 = .ok (.bastore, 1) := by decide +kernel
theorem dX12_clearBank_111 : decode cX12_clearBank 111 = .ok (.aload_n 0, 1) := by decide +kernel
theorem dX12_clearBank_112 : decode cX12_clearBank 112 = .ok (.getfield 88, 3) := by decide +kernel
theorem dX12_clearBank_115 : decode cX12_clearBank 115 = .ok (.aload_n 0, 1) := by decide +kernel
theorem dX12_clearBank_116 : decode cX12_clearBank 116 = .ok (.getfield 292, 3) := by decide +kernel
theorem dX12_clearBank_119 : decode cX12_clearBank 119 = .ok (.iconst 0, 1) := by decide +kernel
theorem dX12_clearBank_120 : decode cX12_clearBank 120 = .ok (.bastore, 1) := by decide +kernel
theorem dX12_clearBank_121 : decode cX12_clearBank 121 = .ok (.bipush 9, 2) := by decide +kernel
theorem dX12_clearBank_123 : decode cX12_clearBank 123 = .ok (.aload_n 0, 1) := by decide +kernel
theorem dX12_clearBank_124 : decode cX12_clearBank 124 = .ok (.getfield 292, 3) := by decide +kernel
theorem dX12_clearBank_127 : decode cX12_clearBank 127 = .ok (.imul, 1) := by decide +kernel
theorem dX12_clearBank_128 : decode cX12_clearBank 128 = .ok (.istore_n 1, 1) := by decide +kernel
theorem dX12_clearBank_129 : decode cX12_clearBank 129 = .ok (.iload_n 1, 1) := by decide +kernel
theorem dX12_clearBank_130 : decode cX12_clearBank 130 = .ok (.bipush 9, 2) := by decide +kernel
theorem dX12_clearBank_132 : decode cX12_clearBank 132 = .ok (.aload_n 0, 1) := by decide +kernel
theorem dX12_clearBank_133 : decode cX12_clearBank 133 = .ok (.getfield 292, 3) := by decide +kernel
theorem dX12_clearBank_136 : decode cX12_clearBank 136 = .ok (.imul, 1) := by decide +kernel
theorem dX12_clearBank_137 : decode cX12_clearBank 137 = .ok (.bipush 9, 2) := by decide +kernel
theorem dX12_clearBank_139 : decode cX12_clearBank 139 = .ok (.iadd, 1) := by decide +kernel
theorem dX12_clearBank_140 : decode cX12_clearBank 140 = .ok (.if_icmp .ge 16, 3) := by decide +kernel
theorem dX12_clearBank_143 : decode cX12_clearBank 143 = .ok (.aload_n 0, 1) := by decide +kernel
theorem dX12_clearBank_144 : decode cX12_clearBank 144 = .ok (.getfield 66, 3) := by decide +kernel
theorem dX12_clearBank_147 : decode cX12_clearBank 147 = .ok (.iload_n 1, 1) := by decide +kernel
theorem dX12_clearBank_148 : decode cX12_clearBank 148 = .ok (.iconst 0, 1) := by decide +kernel
theorem dX12_clearBank_149 : decode cX12_clearBank 149 = .ok (.iastore, 1) := by decide +kernel
theorem dX12_clearBank_150 : decode cX12_clearBank 150 = .ok (.iinc 1 1, 3) := by decide +kernel
theorem dX12_clearBank_153 : decode cX12_clearBank 153 = .ok (.goto (-24), 3) := by decide +kernel
theorem dX12_clearBank_156 : decode cX12_clearBank 156 = .ok (.aload_n 0, 1) := by decide +kernel
theorem dX12_clearBank_157 : decode cX12_clearBank 157 = .ok (.sipush 560, 3) := by decide +kernel
theorem dX12_clearBank_160 : decode cX12_clearBank 160 = .ok (.aload_n 0, 1) := by decide +kernel
theorem dX12_clearBank_161 : decode cX12_clearBank 161 = .ok (.getfield 292, 3) := by decide +kernel
theorem dX12_clearBank_164 : decode cX12_clearBank 164 = .ok (.imul, 1) := by decide +kernel
theorem dX12_clearBank_165 : decode cX12_clearBank 165 = .ok (.putfield 295, 3) := by decide +kernel
theorem dX12_clearBank_168 : decode cX12_clearBank 168 = .ok (.return_, 1) := by decide +kernel
abbrev mi_X12_clearBank : MI := (zTM, RX12, yX12_clearBank, cX12_clearBank, 2, none, 2)
theorem cal_X12_clearBank : zCalV mi_X12_clearBank 0 := ⟨⟨zTB_i6 99 (by decide +kernel), zTB_i6 98 (by decide +kernel), zTB_i0 45 (by decide +kernel), zTB_i1 13 (by decide +kernel)⟩, ⟨by decide, by decide, by decide +kernel⟩, by decide⟩
noncomputable def X12_clearBank_L1 : Nat → Int32 → Mem → Option (Mem)
  | 0, _, _ => none
  | n + 1, c1, M =>
    if ((9 * (M.1 0 42)) + 9) ≤ c1 then
      some M
    else
    gd_ (inb c1 (18) = true) (
    lt_ (uI M 18 c1.toNatClampNeg 0) fun M28 =>
    X12_clearBank_L1 n (c1 + 1) M28)
noncomputable def X12_clearBank (M : Mem) : Option (Mem) :=
  gd_ (inb (M.1 0 42) (2) = true) (
  lt_ (uI M 3 ((M.1 0 42).toNatClampNeg) 0) fun M2 =>
  gd_ (inb (M2.1 0 42) (2) = true) (
  lt_ (uI M2 4 ((M2.1 0 42).toNatClampNeg) 0) fun M4 =>
  gd_ (inb (M4.1 0 42) (2) = true) (
  lt_ (uI M4 5 ((M4.1 0 42).toNatClampNeg) 0) fun M6 =>
  gd_ (inb (M6.1 0 42) (2) = true) (
  lt_ (uI M6 6 ((M6.1 0 42).toNatClampNeg) 0) fun M8 =>
  gd_ (inb (M8.1 0 42) (2) = true) (
  lt_ (uI M8 7 ((M8.1 0 42).toNatClampNeg) 0) fun M10 =>
  gd_ (inb (M10.1 0 42) (2) = true) (
  lt_ (uI M10 8 ((M10.1 0 42).toNatClampNeg) 6) fun M12 =>
  gd_ (inb (M12.1 0 42) (2) = true) (
  lt_ (uI M12 9 ((M12.1 0 42).toNatClampNeg) 0) fun M14 =>
  gd_ (inb (M14.1 0 42) (2) = true) (
  lt_ (uI M14 10 ((M14.1 0 42).toNatClampNeg) 0) fun M16 =>
  gd_ (inb (M16.1 0 42) (2) = true) (
  lt_ (uI M16 11 ((M16.1 0 42).toNatClampNeg) 0) fun M18 =>
  gd_ (inb (M18.1 0 42) (2) = true) (
  lt_ (uI M18 23 ((M18.1 0 42).toNatClampNeg) 0) fun M20 =>
  gd_ (inb (M20.1 0 42) (2) = true) (
  lt_ (uI M20 24 ((M20.1 0 42).toNatClampNeg) 0) fun M22 =>
  gd_ (inb (M22.1 0 42) (2) = true) (
  lt_ (uI M22 25 ((M22.1 0 42).toNatClampNeg) 0) fun M24 =>
  lt_ (α := Int32) (9 * (M24.1 0 42)) fun y25 =>
  b1_ (α := Mem) (X12_clearBank_L1 zFU y25 M24) fun M29 =>
  lt_ (uI M29 0 43 (560 * (M29.1 0 42))) fun M30 =>
  some M30))))))))))))
set_option maxRecDepth 100000 in
set_option maxHeartbeats 4000000 in
theorem X12_clearBank_L1_ok (G : Gh) {dn : Option (Mem) → Option (Option Value × Mem)} (hs : dn none = none) (hx : ∀ (M29 : Mem), Wr G mi_X12_clearBank dn 156 [some (.ref (G.2.2.2 (0))), none] [] M29 (some M29)) : ∀ (n : Nat) (c1 : Int32) (M : Mem), Wr G mi_X12_clearBank dn 129 [some (.ref (G.2.2.2 (0))), some (.int c1)] [] M (X12_clearBank_L1 n c1 M) := by
  intro n
  induction n with
  | zero => intro c1 M; exact r_none (by exact hs)
  | succ n ih =>
    intro c1 M
    rw [X12_clearBank_L1]
    refine r_iload_n dX12_clearBank_129 rfl ?_
    refine r_bipush (x := 9) dX12_clearBank_130 rfl ?_
    refine r_aload_n dX12_clearBank_132 rfl ?_
    refine r_getf (v := .int (M.1 0 42)) dX12_clearBank_133 fM_0_42 kX12 (by decide) lkf_X12_292 rfl ?_
    refine r_imul dX12_clearBank_136 ?_
    refine r_bipush (x := 9) dX12_clearBank_137 rfl ?_
    refine r_iadd dX12_clearBank_139 ?_
    refine r_icmp_ge (tgt := 156) dX12_clearBank_140 rfl (fun h26 => ?_) (fun h26 => ?_)
    · exact r_lk (hx M) (And.intro rfl True.intro)
    refine r_aload_n dX12_clearBank_143 rfl ?_
    refine r_getf (v := .ref (G.2.2.2 (18))) dX12_clearBank_144 fM_0_26 kX12 (by decide) lkf_X12_66 rfl ?_
    refine r_iload_n dX12_clearBank_147 rfl ?_
    refine r_iconst (x := 0) dX12_clearBank_148 rfl ?_
    refine r_gd (by exact hs) (fun g27 => ?_)
    refine r_iast dX12_clearBank_149 aM_18 (inb_in g27) rfl (fun M28 => ?_)
    refine r_iinc (y := c1 + 1) (lv' := [some (.ref (G.2.2.2 (0))), some (.int (c1 + 1))]) dX12_clearBank_150 rfl rfl (Nat.le_of_ble_eq_true rfl) rfl rfl ?_
    refine r_goto (tgt := 129) dX12_clearBank_153 rfl ?_
    exact r_lk (ih (c1 + 1) M28) (And.intro rfl (And.intro rfl True.intro))
set_option maxRecDepth 100000 in
set_option maxHeartbeats 4000000 in
theorem X12_clearBank_ok (G : Gh) (M : Mem) : Mt G mi_X12_clearBank [.ref (G.2.2.2 (0))] M ((dO dV) (X12_clearBank M)) := by
  refine Mt_of (lv := [some (.ref (G.2.2.2 (0)))]) (by decide) rfl (Nat.le_of_ble_eq_true rfl) rfl ?_
  refine r_le (lv' := [some (.ref (G.2.2.2 (0))), none]) (And.intro rfl True.intro) ?_
  unfold X12_clearBank
  refine r_aload_n dX12_clearBank_0 rfl ?_
  refine r_getf (v := .ref (G.2.2.2 (3))) dX12_clearBank_1 fM_0_11 kX12 (by decide) lkf_X12_20 rfl ?_
  refine r_aload_n dX12_clearBank_4 rfl ?_
  refine r_getf (v := .int (M.1 0 42)) dX12_clearBank_5 fM_0_42 kX12 (by decide) lkf_X12_292 rfl ?_
  refine r_iconst (x := 0) dX12_clearBank_8 rfl ?_
  refine r_gd rfl (fun g1 => ?_)
  refine r_iast dX12_clearBank_9 aM_3 (inb_in g1) rfl (fun M2 => ?_)
  refine r_aload_n dX12_clearBank_10 rfl ?_
  refine r_getf (v := .ref (G.2.2.2 (4))) dX12_clearBank_11 fM_0_12 kX12 (by decide) lkf_X12_24 rfl ?_
  refine r_aload_n dX12_clearBank_14 rfl ?_
  refine r_getf (v := .int (M2.1 0 42)) dX12_clearBank_15 fM_0_42 kX12 (by decide) lkf_X12_292 rfl ?_
  refine r_iconst (x := 0) dX12_clearBank_18 rfl ?_
  refine r_gd rfl (fun g3 => ?_)
  refine r_iast dX12_clearBank_19 aM_4 (inb_in g3) rfl (fun M4 => ?_)
  refine r_aload_n dX12_clearBank_20 rfl ?_
  refine r_getf (v := .ref (G.2.2.2 (5))) dX12_clearBank_21 fM_0_13 kX12 (by decide) lkf_X12_27 rfl ?_
  refine r_aload_n dX12_clearBank_24 rfl ?_
  refine r_getf (v := .int (M4.1 0 42)) dX12_clearBank_25 fM_0_42 kX12 (by decide) lkf_X12_292 rfl ?_
  refine r_iconst (x := 0) dX12_clearBank_28 rfl ?_
  refine r_gd rfl (fun g5 => ?_)
  refine r_iast dX12_clearBank_29 aM_5 (inb_in g5) rfl (fun M6 => ?_)
  refine r_aload_n dX12_clearBank_30 rfl ?_
  refine r_getf (v := .ref (G.2.2.2 (6))) dX12_clearBank_31 fM_0_14 kX12 (by decide) lkf_X12_30 rfl ?_
  refine r_aload_n dX12_clearBank_34 rfl ?_
  refine r_getf (v := .int (M6.1 0 42)) dX12_clearBank_35 fM_0_42 kX12 (by decide) lkf_X12_292 rfl ?_
  refine r_iconst (x := 0) dX12_clearBank_38 rfl ?_
  refine r_gd rfl (fun g7 => ?_)
  refine r_iast dX12_clearBank_39 aM_6 (inb_in g7) rfl (fun M8 => ?_)
  refine r_aload_n dX12_clearBank_40 rfl ?_
  refine r_getf (v := .ref (G.2.2.2 (7))) dX12_clearBank_41 fM_0_15 kX12 (by decide) lkf_X12_33 rfl ?_
  refine r_aload_n dX12_clearBank_44 rfl ?_
  refine r_getf (v := .int (M8.1 0 42)) dX12_clearBank_45 fM_0_42 kX12 (by decide) lkf_X12_292 rfl ?_
  refine r_iconst (x := 0) dX12_clearBank_48 rfl ?_
  refine r_gd rfl (fun g9 => ?_)
  refine r_iast dX12_clearBank_49 aM_7 (inb_in g9) rfl (fun M10 => ?_)
  refine r_aload_n dX12_clearBank_50 rfl ?_
  refine r_getf (v := .ref (G.2.2.2 (8))) dX12_clearBank_51 fM_0_16 kX12 (by decide) lkf_X12_36 rfl ?_
  refine r_aload_n dX12_clearBank_54 rfl ?_
  refine r_getf (v := .int (M10.1 0 42)) dX12_clearBank_55 fM_0_42 kX12 (by decide) lkf_X12_292 rfl ?_
  refine r_bipush (x := 6) dX12_clearBank_58 rfl ?_
  refine r_gd rfl (fun g11 => ?_)
  refine r_iast dX12_clearBank_60 aM_8 (inb_in g11) rfl (fun M12 => ?_)
  refine r_aload_n dX12_clearBank_61 rfl ?_
  refine r_getf (v := .ref (G.2.2.2 (9))) dX12_clearBank_62 fM_0_17 kX12 (by decide) lkf_X12_39 rfl ?_
  refine r_aload_n dX12_clearBank_65 rfl ?_
  refine r_getf (v := .int (M12.1 0 42)) dX12_clearBank_66 fM_0_42 kX12 (by decide) lkf_X12_292 rfl ?_
  refine r_iconst (x := 0) dX12_clearBank_69 rfl ?_
  refine r_gd rfl (fun g13 => ?_)
  refine r_iast dX12_clearBank_70 aM_9 (inb_in g13) rfl (fun M14 => ?_)
  refine r_aload_n dX12_clearBank_71 rfl ?_
  refine r_getf (v := .ref (G.2.2.2 (10))) dX12_clearBank_72 fM_0_18 kX12 (by decide) lkf_X12_42 rfl ?_
  refine r_aload_n dX12_clearBank_75 rfl ?_
  refine r_getf (v := .int (M14.1 0 42)) dX12_clearBank_76 fM_0_42 kX12 (by decide) lkf_X12_292 rfl ?_
  refine r_iconst (x := 0) dX12_clearBank_79 rfl ?_
  refine r_gd rfl (fun g15 => ?_)
  refine r_iast dX12_clearBank_80 aM_10 (inb_in g15) rfl (fun M16 => ?_)
  refine r_aload_n dX12_clearBank_81 rfl ?_
  refine r_getf (v := .ref (G.2.2.2 (11))) dX12_clearBank_82 fM_0_19 kX12 (by decide) lkf_X12_45 rfl ?_
  refine r_aload_n dX12_clearBank_85 rfl ?_
  refine r_getf (v := .int (M16.1 0 42)) dX12_clearBank_86 fM_0_42 kX12 (by decide) lkf_X12_292 rfl ?_
  refine r_iconst (x := 0) dX12_clearBank_89 rfl ?_
  refine r_gd rfl (fun g17 => ?_)
  refine r_iast dX12_clearBank_90 aM_11 (inb_in g17) rfl (fun M18 => ?_)
  refine r_aload_n dX12_clearBank_91 rfl ?_
  refine r_getf (v := .ref (G.2.2.2 (23))) dX12_clearBank_92 fM_0_31 kX12 (by decide) lkf_X12_81 rfl ?_
  refine r_aload_n dX12_clearBank_95 rfl ?_
  refine r_getf (v := .int (M18.1 0 42)) dX12_clearBank_96 fM_0_42 kX12 (by decide) lkf_X12_292 rfl ?_
  refine r_iconst (x := 0) dX12_clearBank_99 rfl ?_
  refine r_gd rfl (fun g19 => ?_)
  refine r_zast dX12_clearBank_100 aM_23 (inb_in g19) rfl (y := 0) rfl (fun M20 => ?_)
  refine r_aload_n dX12_clearBank_101 rfl ?_
  refine r_getf (v := .ref (G.2.2.2 (24))) dX12_clearBank_102 fM_0_32 kX12 (by decide) lkf_X12_85 rfl ?_
  refine r_aload_n dX12_clearBank_105 rfl ?_
  refine r_getf (v := .int (M20.1 0 42)) dX12_clearBank_106 fM_0_42 kX12 (by decide) lkf_X12_292 rfl ?_
  refine r_iconst (x := 0) dX12_clearBank_109 rfl ?_
  refine r_gd rfl (fun g21 => ?_)
  refine r_zast dX12_clearBank_110 aM_24 (inb_in g21) rfl (y := 0) rfl (fun M22 => ?_)
  refine r_aload_n dX12_clearBank_111 rfl ?_
  refine r_getf (v := .ref (G.2.2.2 (25))) dX12_clearBank_112 fM_0_33 kX12 (by decide) lkf_X12_88 rfl ?_
  refine r_aload_n dX12_clearBank_115 rfl ?_
  refine r_getf (v := .int (M22.1 0 42)) dX12_clearBank_116 fM_0_42 kX12 (by decide) lkf_X12_292 rfl ?_
  refine r_iconst (x := 0) dX12_clearBank_119 rfl ?_
  refine r_gd rfl (fun g23 => ?_)
  refine r_zast dX12_clearBank_120 aM_25 (inb_in g23) rfl (y := 0) rfl (fun M24 => ?_)
  refine r_bipush (x := 9) dX12_clearBank_121 rfl ?_
  refine r_aload_n dX12_clearBank_123 rfl ?_
  refine r_getf (v := .int (M24.1 0 42)) dX12_clearBank_124 fM_0_42 kX12 (by decide) lkf_X12_292 rfl ?_
  refine r_imul dX12_clearBank_127 ?_
  refine r_letI (fun y25 => ?_)
  refine r_istore_n (lv' := [some (.ref (G.2.2.2 (0))), some (.int y25)]) dX12_clearBank_128 (Nat.le_of_ble_eq_true rfl) rfl rfl ?_
  refine r_jB1 (j := 156) (lvj := fun M29 => [some (.ref (G.2.2.2 (0))), none]) (stj := fun M29 => []) (Mj := fun M29 => M29) (fun M29 => ?_) (fun hj156 => ?_)
  · refine r_aload_n dX12_clearBank_156 rfl ?_
    refine r_sipush (x := 560) dX12_clearBank_157 rfl ?_
    refine r_aload_n dX12_clearBank_160 rfl ?_
    refine r_getf (v := .int (M29.1 0 42)) dX12_clearBank_161 fM_0_42 kX12 (by decide) lkf_X12_292 rfl ?_
    refine r_imul dX12_clearBank_164 ?_
    refine r_putI dX12_clearBank_165 fM_0_43 kX12 (by decide) rfl rfl lkf_X12_295 (fun _ => rfl) rfl rfl (fun M30 => ?_)
    exact r_vret dX12_clearBank_168 rfl rfl
  exact r_lk (X12_clearBank_L1_ok G rfl hj156 zFU y25 M24) (And.intro rfl (And.intro rfl True.intro))

theorem dX12_sign_0 : decode cX12_sign 0 = .ok (.iload_n 1, 1) := by decide +kernel
theorem dX12_sign_1 : decode cX12_sign 1 = .ok (.aload_n 0, 1) := by decide +kernel
theorem dX12_sign_2 : decode cX12_sign 2 = .ok (.getfield 185, 3) := by decide +kernel
theorem dX12_sign_5 : decode cX12_sign 5 = .ok (.if_icmp .ge 16, 3) := by decide +kernel
theorem dX12_sign_8 : decode cX12_sign 8 = .ok (.aload_n 0, 1) := by decide +kernel
theorem dX12_sign_9 : decode cX12_sign 9 = .ok (.getfield 13, 3) := by decide +kernel
theorem dX12_sign_12 : decode cX12_sign 12 = .ok (.iload_n 1, 1) := by decide +kernel
theorem dX12_sign_13 : decode cX12_sign 13 = .ok (.baload, 1) := by decide +kernel
theorem dX12_sign_14 : decode cX12_sign 14 = .ok (.sipush 255, 3) := by decide +kernel
theorem dX12_sign_17 : decode cX12_sign 17 = .ok (.iand, 1) := by decide +kernel
theorem dX12_sign_18 : decode cX12_sign 18 = .ok (.goto 4, 3) := by decide +kernel
theorem dX12_sign_21 : decode cX12_sign 21 = .ok (.iconst 0, 1) := by decide +kernel
theorem dX12_sign_22 : decode cX12_sign 22 = .ok (.ireturn, 1) := by decide +kernel
abbrev mi_X12_sign : MI := (zTM, RX12, yX12_sign, cX12_sign, 2, (some .int), 2)
theorem cal_X12_sign : zCalV mi_X12_sign 1 := ⟨⟨zTB_i7 129 (by decide +kernel), zTB_i7 128 (by decide +kernel), zTB_i0 49 (by decide +kernel), zTB_i1 13 (by decide +kernel)⟩, ⟨by decide, by decide, by decide +kernel⟩, by decide⟩
noncomputable def X12_sign (x1 : Int32) (M : Mem) : Option (Int32) :=
  if (M.1 0 3) ≤ x1 then
    some 0
  else
  gd_ (inb x1 (1600) = true) (
  some ((M.1 2 x1.toNatClampNeg) &&& 255))
set_option maxRecDepth 100000 in
set_option maxHeartbeats 4000000 in
theorem X12_sign_ok (G : Gh) (x1 : Int32) (M : Mem) : Mt G mi_X12_sign [.ref (G.2.2.2 (0)), .int x1] M ((dO (dI M)) (X12_sign x1 M)) := by
  refine Mt_of (lv := [some (.ref (G.2.2.2 (0))), some (.int x1)]) (by decide) rfl (Nat.le_of_ble_eq_true rfl) rfl ?_
  unfold X12_sign
  refine r_iload_n dX12_sign_0 rfl ?_
  refine r_aload_n dX12_sign_1 rfl ?_
  refine r_getf (v := .int (M.1 0 3)) dX12_sign_2 fM_0_3 kX12 (by decide) lkf_X12_185 rfl ?_
  refine r_icmp_ge (tgt := 21) dX12_sign_5 rfl (fun h1 => ?_) (fun h1 => ?_)
  · refine r_iconst (x := 0) dX12_sign_21 rfl ?_
    exact r_iret (ty := .int) dX12_sign_22 rfl rfl rfl
  refine r_aload_n dX12_sign_8 rfl ?_
  refine r_getf (v := .ref (G.2.2.2 (2))) dX12_sign_9 fM_0_1 kX12 (by decide) lkf_X12_13 rfl ?_
  refine r_iload_n dX12_sign_12 rfl ?_
  refine r_gd rfl (fun g2 => ?_)
  refine r_bald dX12_sign_13 aM_2 (inb_in g2) rfl ?_
  refine r_sipush (x := 255) dX12_sign_14 rfl ?_
  refine r_iand dX12_sign_17 ?_
  refine r_goto (tgt := 22) dX12_sign_18 rfl ?_
  exact r_iret (ty := .int) dX12_sign_22 rfl rfl rfl

theorem dX12_isLetter_0 : decode cX12_isLetter 0 = .ok (.iload_n 0, 1) := by decide +kernel
theorem dX12_isLetter_1 : decode cX12_isLetter 1 = .ok (.bipush 97, 2) := by decide +kernel
theorem dX12_isLetter_3 : decode cX12_isLetter 3 = .ok (.if_icmp .lt 13, 3) := by decide +kernel
theorem dX12_isLetter_6 : decode cX12_isLetter 6 = .ok (.iload_n 0, 1) := by decide +kernel
theorem dX12_isLetter_7 : decode cX12_isLetter 7 = .ok (.bipush 122, 2) := by decide +kernel
theorem dX12_isLetter_9 : decode cX12_isLetter 9 = .ok (.if_icmp .gt 7, 3) := by decide +kernel
theorem dX12_isLetter_12 : decode cX12_isLetter 12 = .ok (.iconst 1, 1) := by decide +kernel
theorem dX12_isLetter_13 : decode cX12_isLetter 13 = .ok (.goto 4, 3) := by decide +kernel
theorem dX12_isLetter_16 : decode cX12_isLetter 16 = .ok (.iconst 0, 1) := by decide +kernel
theorem dX12_isLetter_17 : decode cX12_isLetter 17 = .ok (.ireturn, 1) := by decide +kernel
abbrev mi_X12_isLetter : MI := (zTM, RX12, yX12_isLetter, cX12_isLetter, 1, (some .boolean), 2)
theorem cal_X12_isLetter : zCalS mi_X12_isLetter 1 := ⟨⟨zTB_i7 132 (by decide +kernel), zTB_i7 131 (by decide +kernel), zTB_i1 13 (by decide +kernel)⟩, ⟨by decide, by decide, by decide +kernel⟩, by decide⟩
noncomputable def X12_isLetter (x0 : Int32) : Bool :=
  if x0 < 97 then
    false
  else
  if 122 < x0 then
    false
  else
  true
set_option maxRecDepth 100000 in
set_option maxHeartbeats 4000000 in
theorem X12_isLetter_ok (G : Gh) (x0 : Int32) (M : Mem) : Mt G mi_X12_isLetter [.int x0] M ((dZ M) (X12_isLetter x0)) := by
  refine Mt_of (lv := [some (.int x0)]) (by decide) rfl (Nat.le_of_ble_eq_true rfl) rfl ?_
  unfold X12_isLetter
  refine r_iload_n dX12_isLetter_0 rfl ?_
  refine r_bipush (x := 97) dX12_isLetter_1 rfl ?_
  refine r_icmp_lt (tgt := 16) dX12_isLetter_3 rfl (fun h1 => ?_) (fun h1 => ?_)
  · refine r_iconst (x := 0) dX12_isLetter_16 rfl ?_
    exact r_iret (ty := .boolean) dX12_isLetter_17 rfl rfl rfl
  refine r_iload_n dX12_isLetter_6 rfl ?_
  refine r_bipush (x := 122) dX12_isLetter_7 rfl ?_
  refine r_icmp_gt (tgt := 16) dX12_isLetter_9 rfl (fun h2 => ?_) (fun h2 => ?_)
  · refine r_iconst (x := 0) dX12_isLetter_16 rfl ?_
    exact r_iret (ty := .boolean) dX12_isLetter_17 rfl rfl rfl
  refine r_iconst (x := 1) dX12_isLetter_12 rfl ?_
  refine r_goto (tgt := 17) dX12_isLetter_13 rfl ?_
  exact r_iret (ty := .boolean) dX12_isLetter_17 rfl rfl rfl

theorem dX12_isKept_0 : decode cX12_isKept 0 = .ok (.lload_n 0, 1) := by decide +kernel
theorem dX12_isKept_1 : decode cX12_isKept 1 = .ok (.ldc2_w 191, 3) := by decide +kernel
theorem dX12_isKept_4 : decode cX12_isKept 4 = .ok (.lcmp, 1) := by decide +kernel
theorem dX12_isKept_5 : decode cX12_isKept 5 = .ok (.ifCond .eq 83, 3) := by decide +kernel
theorem dX12_isKept_8 : decode cX12_isKept 8 = .ok (.lload_n 0, 1) := by decide +kernel
theorem dX12_isKept_9 : decode cX12_isKept 9 = .ok (.ldc2_w 193, 3) := by decide +kernel
theorem dX12_isKept_12 : decode cX12_isKept 12 = .ok (.lcmp, 1) := by decide +kernel
theorem dX12_isKept_13 : decode cX12_isKept 13 = .ok (.ifCond .eq 75, 3) := by decide +kernel
theorem dX12_isKept_16 : decode cX12_isKept 16 = .ok (.lload_n 0, 1) := by decide +kernel
theorem dX12_isKept_17 : decode cX12_isKept 17 = .ok (.ldc2_w 195, 3) := by decide +kernel
theorem dX12_isKept_20 : decode cX12_isKept 20 = .ok (.lcmp, 1) := by decide +kernel
theorem dX12_isKept_21 : decode cX12_isKept 21 = .ok (.ifCond .eq 67, 3) := by decide +kernel
theorem dX12_isKept_24 : decode cX12_isKept 24 = .ok (.lload_n 0, 1) := by decide +kernel
theorem dX12_isKept_25 : decode cX12_isKept 25 = .ok (.ldc2_w 197, 3) := by decide +kernel
theorem dX12_isKept_28 : decode cX12_isKept 28 = .ok (.lcmp, 1) := by decide +kernel
theorem dX12_isKept_29 : decode cX12_isKept 29 = .ok (.ifCond .eq 59, 3) := by decide +kernel
theorem dX12_isKept_32 : decode cX12_isKept 32 = .ok (.lload_n 0, 1) := by decide +kernel
theorem dX12_isKept_33 : decode cX12_isKept 33 = .ok (.ldc2_w 199, 3) := by decide +kernel
theorem dX12_isKept_36 : decode cX12_isKept 36 = .ok (.lcmp, 1) := by decide +kernel
theorem dX12_isKept_37 : decode cX12_isKept 37 = .ok (.ifCond .eq 51, 3) := by decide +kernel
theorem dX12_isKept_40 : decode cX12_isKept 40 = .ok (.lload_n 0, 1) := by decide +kernel
theorem dX12_isKept_41 : decode cX12_isKept 41 = .ok (.ldc2_w 201, 3) := by decide +kernel
theorem dX12_isKept_44 : decode cX12_isKept 44 = .ok (.lcmp, 1) := by decide +kernel
theorem dX12_isKept_45 : decode cX12_isKept 45 = .ok (.ifCond .eq 43, 3) := by decide +kernel
theorem dX12_isKept_48 : decode cX12_isKept 48 = .ok (.lload_n 0, 1) := by decide +kernel
theorem dX12_isKept_49 : decode cX12_isKept 49 = .ok (.ldc2_w 203, 3) := by decide +kernel
theorem dX12_isKept_52 : decode cX12_isKept 52 = .ok (.lcmp, 1) := by decide +kernel
theorem dX12_isKept_53 : decode cX12_isKept 53 = .ok (.ifCond .eq 35, 3) := by decide +kernel
theorem dX12_isKept_56 : decode cX12_isKept 56 = .ok (.lload_n 0, 1) := by decide +kernel
theorem dX12_isKept_57 : decode cX12_isKept 57 = .ok (.ldc2_w 205, 3) := by decide +kernel
theorem dX12_isKept_60 : decode cX12_isKept 60 = .ok (.lcmp, 1) := by decide +kernel
theorem dX12_isKept_61 : decode cX12_isKept 61 = .ok (.ifCond .eq 27, 3) := by decide +kernel
theorem dX12_isKept_64 : decode cX12_isKept 64 = .ok (.lload_n 0, 1) := by decide +kernel
theorem dX12_isKept_65 : decode cX12_isKept 65 = .ok (.ldc2_w 207, 3) := by decide +kernel
theorem dX12_isKept_68 : decode cX12_isKept 68 = .ok (.lcmp, 1) := by decide +kernel
theorem dX12_isKept_69 : decode cX12_isKept 69 = .ok (.ifCond .eq 19, 3) := by decide +kernel
theorem dX12_isKept_72 : decode cX12_isKept 72 = .ok (.lload_n 0, 1) := by decide +kernel
theorem dX12_isKept_73 : decode cX12_isKept 73 = .ok (.ldc2_w 209, 3) := by decide +kernel
theorem dX12_isKept_76 : decode cX12_isKept 76 = .ok (.lcmp, 1) := by decide +kernel
theorem dX12_isKept_77 : decode cX12_isKept 77 = .ok (.ifCond .eq 11, 3) := by decide +kernel
theorem dX12_isKept_80 : decode cX12_isKept 80 = .ok (.lload_n 0, 1) := by decide +kernel
theorem dX12_isKept_81 : decode cX12_isKept 81 = .ok (.ldc2_w 211, 3) := by decide +kernel
theorem dX12_isKept_84 : decode cX12_isKept 84 = .ok (.lcmp, 1) := by decide +kernel
theorem dX12_isKept_85 : decode cX12_isKept 85 = .ok (.ifCond .ne 7, 3) := by decide +kernel
theorem dX12_isKept_88 : decode cX12_isKept 88 = .ok (.iconst 1, 1) := by decide +kernel
theorem dX12_isKept_89 : decode cX12_isKept 89 = .ok (.goto 4, 3) := by decide +kernel
theorem dX12_isKept_92 : decode cX12_isKept 92 = .ok (.iconst 0, 1) := by decide +kernel
theorem dX12_isKept_93 : decode cX12_isKept 93 = .ok (.istore_n 2, 1) := by decide +kernel
theorem dX12_isKept_94 : decode cX12_isKept 94 = .ok (.iload_n 2, 1) := by decide +kernel
theorem dX12_isKept_95 : decode cX12_isKept 95 = .ok (.ifCond .ne 83, 3) := by decide +kernel
theorem dX12_isKept_98 : decode cX12_isKept 98 = .ok (.lload_n 0, 1) := by decide +kernel
theorem dX12_isKept_99 : decode cX12_isKept 99 = .ok (.ldc2_w 213, 3) := by decide +kernel
theorem dX12_isKept_102 : decode cX12_isKept 102 = .ok (.lcmp, 1) := by decide +kernel
theorem dX12_isKept_103 : decode cX12_isKept 103 = .ok (.ifCond .eq 75, 3) := by decide +kernel
theorem dX12_isKept_106 : decode cX12_isKept 106 = .ok (.lload_n 0, 1) := by decide +kernel
theorem dX12_isKept_107 : decode cX12_isKept 107 = .ok (.ldc2_w 215, 3) := by decide +kernel
theorem dX12_isKept_110 : decode cX12_isKept 110 = .ok (.lcmp, 1) := by decide +kernel
theorem dX12_isKept_111 : decode cX12_isKept 111 = .ok (.ifCond .eq 67, 3) := by decide +kernel
theorem dX12_isKept_114 : decode cX12_isKept 114 = .ok (.lload_n 0, 1) := by decide +kernel
theorem dX12_isKept_115 : decode cX12_isKept 115 = .ok (.ldc2_w 217, 3) := by decide +kernel
theorem dX12_isKept_118 : decode cX12_isKept 118 = .ok (.lcmp, 1) := by decide +kernel
theorem dX12_isKept_119 : decode cX12_isKept 119 = .ok (.ifCond .eq 59, 3) := by decide +kernel
theorem dX12_isKept_122 : decode cX12_isKept 122 = .ok (.lload_n 0, 1) := by decide +kernel
theorem dX12_isKept_123 : decode cX12_isKept 123 = .ok (.ldc2_w 219, 3) := by decide +kernel
theorem dX12_isKept_126 : decode cX12_isKept 126 = .ok (.lcmp, 1) := by decide +kernel
theorem dX12_isKept_127 : decode cX12_isKept 127 = .ok (.ifCond .eq 51, 3) := by decide +kernel
theorem dX12_isKept_130 : decode cX12_isKept 130 = .ok (.lload_n 0, 1) := by decide +kernel
theorem dX12_isKept_131 : decode cX12_isKept 131 = .ok (.ldc2_w 221, 3) := by decide +kernel
theorem dX12_isKept_134 : decode cX12_isKept 134 = .ok (.lcmp, 1) := by decide +kernel
theorem dX12_isKept_135 : decode cX12_isKept 135 = .ok (.ifCond .eq 43, 3) := by decide +kernel
theorem dX12_isKept_138 : decode cX12_isKept 138 = .ok (.lload_n 0, 1) := by decide +kernel
theorem dX12_isKept_139 : decode cX12_isKept 139 = .ok (.ldc2_w 223, 3) := by decide +kernel
theorem dX12_isKept_142 : decode cX12_isKept 142 = .ok (.lcmp, 1) := by decide +kernel
theorem dX12_isKept_143 : decode cX12_isKept 143 = .ok (.ifCond .eq 35, 3) := by decide +kernel
theorem dX12_isKept_146 : decode cX12_isKept 146 = .ok (.lload_n 0, 1) := by decide +kernel
theorem dX12_isKept_147 : decode cX12_isKept 147 = .ok (.ldc2_w 225, 3) := by decide +kernel
theorem dX12_isKept_150 : decode cX12_isKept 150 = .ok (.lcmp, 1) := by decide +kernel
theorem dX12_isKept_151 : decode cX12_isKept 151 = .ok (.ifCond .eq 27, 3) := by decide +kernel
theorem dX12_isKept_154 : decode cX12_isKept 154 = .ok (.lload_n 0, 1) := by decide +kernel
theorem dX12_isKept_155 : decode cX12_isKept 155 = .ok (.ldc2_w 227, 3) := by decide +kernel
theorem dX12_isKept_158 : decode cX12_isKept 158 = .ok (.lcmp, 1) := by decide +kernel
theorem dX12_isKept_159 : decode cX12_isKept 159 = .ok (.ifCond .eq 19, 3) := by decide +kernel
theorem dX12_isKept_162 : decode cX12_isKept 162 = .ok (.lload_n 0, 1) := by decide +kernel
theorem dX12_isKept_163 : decode cX12_isKept 163 = .ok (.ldc2_w 229, 3) := by decide +kernel
theorem dX12_isKept_166 : decode cX12_isKept 166 = .ok (.lcmp, 1) := by decide +kernel
theorem dX12_isKept_167 : decode cX12_isKept 167 = .ok (.ifCond .eq 11, 3) := by decide +kernel
theorem dX12_isKept_170 : decode cX12_isKept 170 = .ok (.lload_n 0, 1) := by decide +kernel
theorem dX12_isKept_171 : decode cX12_isKept 171 = .ok (.ldc2_w 231, 3) := by decide +kernel
theorem dX12_isKept_174 : decode cX12_isKept 174 = .ok (.lcmp, 1) := by decide +kernel
theorem dX12_isKept_175 : decode cX12_isKept 175 = .ok (.ifCond .ne 7, 3) := by decide +kernel
theorem dX12_isKept_178 : decode cX12_isKept 178 = .ok (.iconst 1, 1) := by decide +kernel
theorem dX12_isKept_179 : decode cX12_isKept 179 = .ok (.goto 4, 3) := by decide +kernel
theorem dX12_isKept_182 : decode cX12_isKept 182 = .ok (.iconst 0, 1) := by decide +kernel
theorem dX12_isKept_183 : decode cX12_isKept 183 = .ok (.ireturn, 1) := by decide +kernel
abbrev mi_X12_isKept : MI := (zTM, RX12, yX12_isKept, cX12_isKept, 3, (some .boolean), 2)
theorem cal_X12_isKept : zCalS mi_X12_isKept 1 := ⟨⟨zTB_i7 135 (by decide +kernel), zTB_i7 134 (by decide +kernel), zTB_i1 13 (by decide +kernel)⟩, ⟨by decide, by decide, by decide +kernel⟩, by decide⟩
noncomputable def X12_isKept (x0 : Int64) : Bool :=
  l1_ (α := Int32) (
    l1_ (α := Bool) (
      if (lg_cmp x0 1802071652) = 0 then
        true
      else
      if (lg_cmp x0 7168366) = 0 then
        true
      else
      false) fun t3 =>
    if t3 = true then
      1
    else
    l1_ (α := Bool) (
      if (lg_cmp x0 1668444016) = 0 then
        true
      else
      if (lg_cmp x0 465726042981) = 0 then
        true
      else
      false) fun t7 =>
    if t7 = true then
      1
    else
    l1_ (α := Bool) (
      if (lg_cmp x0 483006772069) = 0 then
        true
      else
      if (lg_cmp x0 7364985) = 0 then
        true
      else
      false) fun t11 =>
    if t11 = true then
      1
    else
    l1_ (α := Bool) (
      if (lg_cmp x0 448377677669) = 0 then
        true
      else
      if (lg_cmp x0 1918989413) = 0 then
        true
      else
      false) fun t15 =>
    if t15 = true then
      1
    else
    l1_ (α := Bool) (
      if (lg_cmp x0 6713202) = 0 then
        true
      else
      if (lg_cmp x0 1651470187) = 0 then
        true
      else
      false) fun t19 =>
    if t19 = true then
      1
    else
    if (lg_cmp x0 1735552887) = 0 then
      1
    else
    0) fun y22 =>
  if y22 = 0 then
    if (lg_cmp x0 448546566771) = 0 then
      true
    else
    if (lg_cmp x0 1685217655) = 0 then
      true
    else
    if (lg_cmp x0 439855772532) = 0 then
      true
    else
    if (lg_cmp x0 126879297138276) = 0 then
      true
    else
    if (lg_cmp x0 499967947364) = 0 then
      true
    else
    if (lg_cmp x0 2003133803) = 0 then
      true
    else
    if (lg_cmp x0 1886154612) = 0 then
      true
    else
    if (lg_cmp x0 28530) = 0 then
      true
    else
    if (lg_cmp x0 6385252) = 0 then
      true
    else
    if (lg_cmp x0 7237492) = 0 then
      true
    else
    false
  else
  true
set_option maxRecDepth 100000 in
set_option maxHeartbeats 4000000 in
theorem X12_isKept_ok (G : Gh) (x0 : Int64) (M : Mem) : Mt G mi_X12_isKept [.long (x0)] M ((dZ M) (X12_isKept x0)) := by
  refine Mt_of (lv := [some (.long (x0)), none]) (by decide) rfl (Nat.le_of_ble_eq_true rfl) rfl ?_
  refine r_le (lv' := [some (.long (x0)), none, none]) (And.intro rfl True.intro) ?_
  unfold X12_isKept
  refine r_lload_n dX12_isKept_0 rfl ?_
  refine r_ldc2 (x := 1802071652) dX12_isKept_1 lkc_X12_191 ?_
  refine r_lcmp dX12_isKept_4 ?_
  refine r_jL1 (j := 93) (lvj := fun y22 => [some (.long (x0)), none, none]) (stj := fun y22 => [.int y22]) (Mj := fun y22 => M) (fun y22 => ?_) (fun hj93 => ?_)
  · refine r_istore_n (lv' := [some (.long (x0)), none, some (.int y22)]) dX12_isKept_93 (Nat.le_of_ble_eq_true rfl) rfl rfl ?_
    refine r_iload_n dX12_isKept_94 rfl ?_
    refine r_if_ne (tgt := 178) dX12_isKept_95 rfl (fun h23 => ?_) (fun h23 => ?_)
    · refine r_lload_n dX12_isKept_98 rfl ?_
      refine r_ldc2 (x := 448546566771) dX12_isKept_99 lkc_X12_213 ?_
      refine r_lcmp dX12_isKept_102 ?_
      refine r_if_eq (tgt := 178) dX12_isKept_103 rfl (fun h24 => ?_) (fun h24 => ?_)
      · refine r_iconst (x := 1) dX12_isKept_178 rfl ?_
        refine r_goto (tgt := 183) dX12_isKept_179 rfl ?_
        exact r_iret (ty := .boolean) dX12_isKept_183 rfl rfl rfl
      refine r_lload_n dX12_isKept_106 rfl ?_
      refine r_ldc2 (x := 1685217655) dX12_isKept_107 lkc_X12_215 ?_
      refine r_lcmp dX12_isKept_110 ?_
      refine r_if_eq (tgt := 178) dX12_isKept_111 rfl (fun h25 => ?_) (fun h25 => ?_)
      · refine r_iconst (x := 1) dX12_isKept_178 rfl ?_
        refine r_goto (tgt := 183) dX12_isKept_179 rfl ?_
        exact r_iret (ty := .boolean) dX12_isKept_183 rfl rfl rfl
      refine r_lload_n dX12_isKept_114 rfl ?_
      refine r_ldc2 (x := 439855772532) dX12_isKept_115 lkc_X12_217 ?_
      refine r_lcmp dX12_isKept_118 ?_
      refine r_if_eq (tgt := 178) dX12_isKept_119 rfl (fun h26 => ?_) (fun h26 => ?_)
      · refine r_iconst (x := 1) dX12_isKept_178 rfl ?_
        refine r_goto (tgt := 183) dX12_isKept_179 rfl ?_
        exact r_iret (ty := .boolean) dX12_isKept_183 rfl rfl rfl
      refine r_lload_n dX12_isKept_122 rfl ?_
      refine r_ldc2 (x := 126879297138276) dX12_isKept_123 lkc_X12_219 ?_
      refine r_lcmp dX12_isKept_126 ?_
      refine r_if_eq (tgt := 178) dX12_isKept_127 rfl (fun h27 => ?_) (fun h27 => ?_)
      · refine r_iconst (x := 1) dX12_isKept_178 rfl ?_
        refine r_goto (tgt := 183) dX12_isKept_179 rfl ?_
        exact r_iret (ty := .boolean) dX12_isKept_183 rfl rfl rfl
      refine r_lload_n dX12_isKept_130 rfl ?_
      refine r_ldc2 (x := 499967947364) dX12_isKept_131 lkc_X12_221 ?_
      refine r_lcmp dX12_isKept_134 ?_
      refine r_if_eq (tgt := 178) dX12_isKept_135 rfl (fun h28 => ?_) (fun h28 => ?_)
      · refine r_iconst (x := 1) dX12_isKept_178 rfl ?_
        refine r_goto (tgt := 183) dX12_isKept_179 rfl ?_
        exact r_iret (ty := .boolean) dX12_isKept_183 rfl rfl rfl
      refine r_lload_n dX12_isKept_138 rfl ?_
      refine r_ldc2 (x := 2003133803) dX12_isKept_139 lkc_X12_223 ?_
      refine r_lcmp dX12_isKept_142 ?_
      refine r_if_eq (tgt := 178) dX12_isKept_143 rfl (fun h29 => ?_) (fun h29 => ?_)
      · refine r_iconst (x := 1) dX12_isKept_178 rfl ?_
        refine r_goto (tgt := 183) dX12_isKept_179 rfl ?_
        exact r_iret (ty := .boolean) dX12_isKept_183 rfl rfl rfl
      refine r_lload_n dX12_isKept_146 rfl ?_
      refine r_ldc2 (x := 1886154612) dX12_isKept_147 lkc_X12_225 ?_
      refine r_lcmp dX12_isKept_150 ?_
      refine r_if_eq (tgt := 178) dX12_isKept_151 rfl (fun h30 => ?_) (fun h30 => ?_)
      · refine r_iconst (x := 1) dX12_isKept_178 rfl ?_
        refine r_goto (tgt := 183) dX12_isKept_179 rfl ?_
        exact r_iret (ty := .boolean) dX12_isKept_183 rfl rfl rfl
      refine r_lload_n dX12_isKept_154 rfl ?_
      refine r_ldc2 (x := 28530) dX12_isKept_155 lkc_X12_227 ?_
      refine r_lcmp dX12_isKept_158 ?_
      refine r_if_eq (tgt := 178) dX12_isKept_159 rfl (fun h31 => ?_) (fun h31 => ?_)
      · refine r_iconst (x := 1) dX12_isKept_178 rfl ?_
        refine r_goto (tgt := 183) dX12_isKept_179 rfl ?_
        exact r_iret (ty := .boolean) dX12_isKept_183 rfl rfl rfl
      refine r_lload_n dX12_isKept_162 rfl ?_
      refine r_ldc2 (x := 6385252) dX12_isKept_163 lkc_X12_229 ?_
      refine r_lcmp dX12_isKept_166 ?_
      refine r_if_eq (tgt := 178) dX12_isKept_167 rfl (fun h32 => ?_) (fun h32 => ?_)
      · refine r_iconst (x := 1) dX12_isKept_178 rfl ?_
        refine r_goto (tgt := 183) dX12_isKept_179 rfl ?_
        exact r_iret (ty := .boolean) dX12_isKept_183 rfl rfl rfl
      refine r_lload_n dX12_isKept_170 rfl ?_
      refine r_ldc2 (x := 7237492) dX12_isKept_171 lkc_X12_231 ?_
      refine r_lcmp dX12_isKept_174 ?_
      refine r_if_ne (tgt := 182) dX12_isKept_175 rfl (fun h33 => ?_) (fun h33 => ?_)
      · refine r_iconst (x := 1) dX12_isKept_178 rfl ?_
        refine r_goto (tgt := 183) dX12_isKept_179 rfl ?_
        exact r_iret (ty := .boolean) dX12_isKept_183 rfl rfl rfl
      refine r_iconst (x := 0) dX12_isKept_182 rfl ?_
      exact r_iret (ty := .boolean) dX12_isKept_183 rfl rfl rfl
    refine r_iconst (x := 1) dX12_isKept_178 rfl ?_
    refine r_goto (tgt := 183) dX12_isKept_179 rfl ?_
    exact r_iret (ty := .boolean) dX12_isKept_183 rfl rfl rfl
  refine r_cL (jX := 88) (jY := 16) (lvX := [some (.long (x0)), none, none]) (lvY := [some (.long (x0)), none, none]) (stX := []) (M1 := M) (fun h4 => ?_) (fun h4 => ?_) (fun hX88 hY16 => ?_)
  · refine r_eq (if_pos rfl) ?_
    refine r_iconst (x := 1) dX12_isKept_88 rfl ?_
    refine r_goto (tgt := 93) dX12_isKept_89 rfl ?_
    exact r_lk (hj93 1) (And.intro rfl True.intro)
  · refine r_eq (if_neg (by decide)) ?_
    refine r_lload_n dX12_isKept_16 rfl ?_
    refine r_ldc2 (x := 1668444016) dX12_isKept_17 lkc_X12_195 ?_
    refine r_lcmp dX12_isKept_20 ?_
    refine r_cL (jX := 88) (jY := 32) (lvX := [some (.long (x0)), none, none]) (lvY := [some (.long (x0)), none, none]) (stX := []) (M1 := M) (fun h8 => ?_) (fun h8 => ?_) (fun hX88 hY32 => ?_)
    · refine r_eq (if_pos rfl) ?_
      refine r_iconst (x := 1) dX12_isKept_88 rfl ?_
      refine r_goto (tgt := 93) dX12_isKept_89 rfl ?_
      exact r_lk (hj93 1) (And.intro rfl True.intro)
    · refine r_eq (if_neg (by decide)) ?_
      refine r_lload_n dX12_isKept_32 rfl ?_
      refine r_ldc2 (x := 483006772069) dX12_isKept_33 lkc_X12_199 ?_
      refine r_lcmp dX12_isKept_36 ?_
      refine r_cL (jX := 88) (jY := 48) (lvX := [some (.long (x0)), none, none]) (lvY := [some (.long (x0)), none, none]) (stX := []) (M1 := M) (fun h12 => ?_) (fun h12 => ?_) (fun hX88 hY48 => ?_)
      · refine r_eq (if_pos rfl) ?_
        refine r_iconst (x := 1) dX12_isKept_88 rfl ?_
        refine r_goto (tgt := 93) dX12_isKept_89 rfl ?_
        exact r_lk (hj93 1) (And.intro rfl True.intro)
      · refine r_eq (if_neg (by decide)) ?_
        refine r_lload_n dX12_isKept_48 rfl ?_
        refine r_ldc2 (x := 448377677669) dX12_isKept_49 lkc_X12_203 ?_
        refine r_lcmp dX12_isKept_52 ?_
        refine r_cL (jX := 88) (jY := 64) (lvX := [some (.long (x0)), none, none]) (lvY := [some (.long (x0)), none, none]) (stX := []) (M1 := M) (fun h16 => ?_) (fun h16 => ?_) (fun hX88 hY64 => ?_)
        · refine r_eq (if_pos rfl) ?_
          refine r_iconst (x := 1) dX12_isKept_88 rfl ?_
          refine r_goto (tgt := 93) dX12_isKept_89 rfl ?_
          exact r_lk (hj93 1) (And.intro rfl True.intro)
        · refine r_eq (if_neg (by decide)) ?_
          refine r_lload_n dX12_isKept_64 rfl ?_
          refine r_ldc2 (x := 6713202) dX12_isKept_65 lkc_X12_207 ?_
          refine r_lcmp dX12_isKept_68 ?_
          refine r_cL (jX := 88) (jY := 80) (lvX := [some (.long (x0)), none, none]) (lvY := [some (.long (x0)), none, none]) (stX := []) (M1 := M) (fun h20 => ?_) (fun h20 => ?_) (fun hX88 hY80 => ?_)
          · refine r_eq (if_pos rfl) ?_
            refine r_iconst (x := 1) dX12_isKept_88 rfl ?_
            refine r_goto (tgt := 93) dX12_isKept_89 rfl ?_
            exact r_lk (hj93 1) (And.intro rfl True.intro)
          · refine r_eq (if_neg (by decide)) ?_
            refine r_lload_n dX12_isKept_80 rfl ?_
            refine r_ldc2 (x := 1735552887) dX12_isKept_81 lkc_X12_211 ?_
            refine r_lcmp dX12_isKept_84 ?_
            refine r_if_ne (tgt := 92) dX12_isKept_85 rfl (fun h21 => ?_) (fun h21 => ?_)
            · refine r_iconst (x := 1) dX12_isKept_88 rfl ?_
              refine r_goto (tgt := 93) dX12_isKept_89 rfl ?_
              exact r_lk (hj93 1) (And.intro rfl True.intro)
            refine r_iconst (x := 0) dX12_isKept_92 rfl ?_
            exact r_lk (hj93 0) (And.intro rfl True.intro)
          refine r_if_eq (tgt := 88) dX12_isKept_69 rfl (fun h17 => ?_) (fun h17 => ?_)
          · exact r_lk hX88 (And.intro rfl True.intro)
          refine r_lload_n dX12_isKept_72 rfl ?_
          refine r_ldc2 (x := 1651470187) dX12_isKept_73 lkc_X12_209 ?_
          refine r_lcmp dX12_isKept_76 ?_
          refine r_if_eq (tgt := 88) dX12_isKept_77 rfl (fun h18 => ?_) (fun h18 => ?_)
          · exact r_lk hX88 (And.intro rfl True.intro)
          exact r_lk hY80 (And.intro rfl True.intro)
        refine r_if_eq (tgt := 88) dX12_isKept_53 rfl (fun h13 => ?_) (fun h13 => ?_)
        · exact r_lk hX88 (And.intro rfl True.intro)
        refine r_lload_n dX12_isKept_56 rfl ?_
        refine r_ldc2 (x := 1918989413) dX12_isKept_57 lkc_X12_205 ?_
        refine r_lcmp dX12_isKept_60 ?_
        refine r_if_eq (tgt := 88) dX12_isKept_61 rfl (fun h14 => ?_) (fun h14 => ?_)
        · exact r_lk hX88 (And.intro rfl True.intro)
        exact r_lk hY64 (And.intro rfl True.intro)
      refine r_if_eq (tgt := 88) dX12_isKept_37 rfl (fun h9 => ?_) (fun h9 => ?_)
      · exact r_lk hX88 (And.intro rfl True.intro)
      refine r_lload_n dX12_isKept_40 rfl ?_
      refine r_ldc2 (x := 7364985) dX12_isKept_41 lkc_X12_201 ?_
      refine r_lcmp dX12_isKept_44 ?_
      refine r_if_eq (tgt := 88) dX12_isKept_45 rfl (fun h10 => ?_) (fun h10 => ?_)
      · exact r_lk hX88 (And.intro rfl True.intro)
      exact r_lk hY48 (And.intro rfl True.intro)
    refine r_if_eq (tgt := 88) dX12_isKept_21 rfl (fun h5 => ?_) (fun h5 => ?_)
    · exact r_lk hX88 (And.intro rfl True.intro)
    refine r_lload_n dX12_isKept_24 rfl ?_
    refine r_ldc2 (x := 465726042981) dX12_isKept_25 lkc_X12_197 ?_
    refine r_lcmp dX12_isKept_28 ?_
    refine r_if_eq (tgt := 88) dX12_isKept_29 rfl (fun h6 => ?_) (fun h6 => ?_)
    · exact r_lk hX88 (And.intro rfl True.intro)
    exact r_lk hY32 (And.intro rfl True.intro)
  refine r_if_eq (tgt := 88) dX12_isKept_5 rfl (fun h1 => ?_) (fun h1 => ?_)
  · exact r_lk hX88 (And.intro rfl True.intro)
  refine r_lload_n dX12_isKept_8 rfl ?_
  refine r_ldc2 (x := 7168366) dX12_isKept_9 lkc_X12_193 ?_
  refine r_lcmp dX12_isKept_12 ?_
  refine r_if_eq (tgt := 88) dX12_isKept_13 rfl (fun h2 => ?_) (fun h2 => ?_)
  · exact r_lk hX88 (And.intro rfl True.intro)
  exact r_lk hY16 (And.intro rfl True.intro)

theorem dX12_isDigit_0 : decode cX12_isDigit 0 = .ok (.iload_n 0, 1) := by decide +kernel
theorem dX12_isDigit_1 : decode cX12_isDigit 1 = .ok (.bipush 48, 2) := by decide +kernel
theorem dX12_isDigit_3 : decode cX12_isDigit 3 = .ok (.if_icmp .lt 13, 3) := by decide +kernel
theorem dX12_isDigit_6 : decode cX12_isDigit 6 = .ok (.iload_n 0, 1) := by decide +kernel
theorem dX12_isDigit_7 : decode cX12_isDigit 7 = .ok (.bipush 57, 2) := by decide +kernel
theorem dX12_isDigit_9 : decode cX12_isDigit 9 = .ok (.if_icmp .gt 7, 3) := by decide +kernel
theorem dX12_isDigit_12 : decode cX12_isDigit 12 = .ok (.iconst 1, 1) := by decide +kernel
theorem dX12_isDigit_13 : decode cX12_isDigit 13 = .ok (.goto 4, 3) := by decide +kernel
theorem dX12_isDigit_16 : decode cX12_isDigit 16 = .ok (.iconst 0, 1) := by decide +kernel
theorem dX12_isDigit_17 : decode cX12_isDigit 17 = .ok (.ireturn, 1) := by decide +kernel
abbrev mi_X12_isDigit : MI := (zTM, RX12, yX12_isDigit, cX12_isDigit, 1, (some .boolean), 2)
theorem cal_X12_isDigit : zCalS mi_X12_isDigit 1 := ⟨⟨zTB_i7 159 (by decide +kernel), zTB_i7 158 (by decide +kernel), zTB_i1 13 (by decide +kernel)⟩, ⟨by decide, by decide, by decide +kernel⟩, by decide⟩
noncomputable def X12_isDigit (x0 : Int32) : Bool :=
  if x0 < 48 then
    false
  else
  if 57 < x0 then
    false
  else
  true
set_option maxRecDepth 100000 in
set_option maxHeartbeats 4000000 in
theorem X12_isDigit_ok (G : Gh) (x0 : Int32) (M : Mem) : Mt G mi_X12_isDigit [.int x0] M ((dZ M) (X12_isDigit x0)) := by
  refine Mt_of (lv := [some (.int x0)]) (by decide) rfl (Nat.le_of_ble_eq_true rfl) rfl ?_
  unfold X12_isDigit
  refine r_iload_n dX12_isDigit_0 rfl ?_
  refine r_bipush (x := 48) dX12_isDigit_1 rfl ?_
  refine r_icmp_lt (tgt := 16) dX12_isDigit_3 rfl (fun h1 => ?_) (fun h1 => ?_)
  · refine r_iconst (x := 0) dX12_isDigit_16 rfl ?_
    exact r_iret (ty := .boolean) dX12_isDigit_17 rfl rfl rfl
  refine r_iload_n dX12_isDigit_6 rfl ?_
  refine r_bipush (x := 57) dX12_isDigit_7 rfl ?_
  refine r_icmp_gt (tgt := 16) dX12_isDigit_9 rfl (fun h2 => ?_) (fun h2 => ?_)
  · refine r_iconst (x := 0) dX12_isDigit_16 rfl ?_
    exact r_iret (ty := .boolean) dX12_isDigit_17 rfl rfl rfl
  refine r_iconst (x := 1) dX12_isDigit_12 rfl ?_
  refine r_goto (tgt := 17) dX12_isDigit_13 rfl ?_
  exact r_iret (ty := .boolean) dX12_isDigit_17 rfl rfl rfl

theorem dX12_isSign_0 : decode cX12_isSign 0 = .ok (.iload_n 0, 1) := by decide +kernel
theorem dX12_isSign_1 : decode cX12_isSign 1 = .ok (.bipush 59, 2) := by decide +kernel
theorem dX12_isSign_3 : decode cX12_isSign 3 = .ok (.if_icmp .eq 63, 3) := by decide +kernel
theorem dX12_isSign_6 : decode cX12_isSign 6 = .ok (.iload_n 0, 1) := by decide +kernel
theorem dX12_isSign_7 : decode cX12_isSign 7 = .ok (.bipush 40, 2) := by decide +kernel
theorem dX12_isSign_9 : decode cX12_isSign 9 = .ok (.if_icmp .eq 57, 3) := by decide +kernel
theorem dX12_isSign_12 : decode cX12_isSign 12 = .ok (.iload_n 0, 1) := by decide +kernel
theorem dX12_isSign_13 : decode cX12_isSign 13 = .ok (.bipush 41, 2) := by decide +kernel
theorem dX12_isSign_15 : decode cX12_isSign 15 = .ok (.if_icmp .eq 51, 3) := by decide +kernel
theorem dX12_isSign_18 : decode cX12_isSign 18 = .ok (.iload_n 0, 1) := by decide +kernel
theorem dX12_isSign_19 : decode cX12_isSign 19 = .ok (.bipush 60, 2) := by decide +kernel
theorem dX12_isSign_21 : decode cX12_isSign 21 = .ok (.if_icmp .eq 45, 3) := by decide +kernel
theorem dX12_isSign_24 : decode cX12_isSign 24 = .ok (.iload_n 0, 1) := by decide +kernel
theorem dX12_isSign_25 : decode cX12_isSign 25 = .ok (.bipush 62, 2) := by decide +kernel
theorem dX12_isSign_27 : decode cX12_isSign 27 = .ok (.if_icmp .eq 39, 3) := by decide +kernel
theorem dX12_isSign_30 : decode cX12_isSign 30 = .ok (.iload_n 0, 1) := by decide +kernel
theorem dX12_isSign_31 : decode cX12_isSign 31 = .ok (.bipush 61, 2) := by decide +kernel
theorem dX12_isSign_33 : decode cX12_isSign 33 = .ok (.if_icmp .eq 33, 3) := by decide +kernel
theorem dX12_isSign_36 : decode cX12_isSign 36 = .ok (.iload_n 0, 1) := by decide +kernel
theorem dX12_isSign_37 : decode cX12_isSign 37 = .ok (.bipush 43, 2) := by decide +kernel
theorem dX12_isSign_39 : decode cX12_isSign 39 = .ok (.if_icmp .eq 27, 3) := by decide +kernel
theorem dX12_isSign_42 : decode cX12_isSign 42 = .ok (.iload_n 0, 1) := by decide +kernel
theorem dX12_isSign_43 : decode cX12_isSign 43 = .ok (.bipush 45, 2) := by decide +kernel
theorem dX12_isSign_45 : decode cX12_isSign 45 = .ok (.if_icmp .eq 21, 3) := by decide +kernel
theorem dX12_isSign_48 : decode cX12_isSign 48 = .ok (.iload_n 0, 1) := by decide +kernel
theorem dX12_isSign_49 : decode cX12_isSign 49 = .ok (.bipush 42, 2) := by decide +kernel
theorem dX12_isSign_51 : decode cX12_isSign 51 = .ok (.if_icmp .eq 15, 3) := by decide +kernel
theorem dX12_isSign_54 : decode cX12_isSign 54 = .ok (.iload_n 0, 1) := by decide +kernel
theorem dX12_isSign_55 : decode cX12_isSign 55 = .ok (.bipush 47, 2) := by decide +kernel
theorem dX12_isSign_57 : decode cX12_isSign 57 = .ok (.if_icmp .eq 9, 3) := by decide +kernel
theorem dX12_isSign_60 : decode cX12_isSign 60 = .ok (.iload_n 0, 1) := by decide +kernel
theorem dX12_isSign_61 : decode cX12_isSign 61 = .ok (.bipush 37, 2) := by decide +kernel
theorem dX12_isSign_63 : decode cX12_isSign 63 = .ok (.if_icmp .ne 7, 3) := by decide +kernel
theorem dX12_isSign_66 : decode cX12_isSign 66 = .ok (.iconst 1, 1) := by decide +kernel
theorem dX12_isSign_67 : decode cX12_isSign 67 = .ok (.goto 4, 3) := by decide +kernel
theorem dX12_isSign_70 : decode cX12_isSign 70 = .ok (.iconst 0, 1) := by decide +kernel
theorem dX12_isSign_71 : decode cX12_isSign 71 = .ok (.ireturn, 1) := by decide +kernel
abbrev mi_X12_isSign : MI := (zTM, RX12, yX12_isSign, cX12_isSign, 1, (some .boolean), 2)
theorem cal_X12_isSign : zCalS mi_X12_isSign 1 := ⟨⟨zTB_i7 162 (by decide +kernel), zTB_i7 161 (by decide +kernel), zTB_i1 13 (by decide +kernel)⟩, ⟨by decide, by decide, by decide +kernel⟩, by decide⟩
noncomputable def X12_isSign (x0 : Int32) : Bool :=
  if x0 = 59 then
    true
  else
  if x0 = 40 then
    true
  else
  if x0 = 41 then
    true
  else
  if x0 = 60 then
    true
  else
  if x0 = 62 then
    true
  else
  if x0 = 61 then
    true
  else
  if x0 = 43 then
    true
  else
  if x0 = 45 then
    true
  else
  if x0 = 42 then
    true
  else
  if x0 = 47 then
    true
  else
  if x0 = 37 then
    true
  else
  false
set_option maxRecDepth 100000 in
set_option maxHeartbeats 4000000 in
theorem X12_isSign_ok (G : Gh) (x0 : Int32) (M : Mem) : Mt G mi_X12_isSign [.int x0] M ((dZ M) (X12_isSign x0)) := by
  refine Mt_of (lv := [some (.int x0)]) (by decide) rfl (Nat.le_of_ble_eq_true rfl) rfl ?_
  unfold X12_isSign
  refine r_iload_n dX12_isSign_0 rfl ?_
  refine r_bipush (x := 59) dX12_isSign_1 rfl ?_
  refine r_icmp_eq (tgt := 66) dX12_isSign_3 rfl (fun h1 => ?_) (fun h1 => ?_)
  · refine r_iconst (x := 1) dX12_isSign_66 rfl ?_
    refine r_goto (tgt := 71) dX12_isSign_67 rfl ?_
    exact r_iret (ty := .boolean) dX12_isSign_71 rfl rfl rfl
  refine r_iload_n dX12_isSign_6 rfl ?_
  refine r_bipush (x := 40) dX12_isSign_7 rfl ?_
  refine r_icmp_eq (tgt := 66) dX12_isSign_9 rfl (fun h2 => ?_) (fun h2 => ?_)
  · refine r_iconst (x := 1) dX12_isSign_66 rfl ?_
    refine r_goto (tgt := 71) dX12_isSign_67 rfl ?_
    exact r_iret (ty := .boolean) dX12_isSign_71 rfl rfl rfl
  refine r_iload_n dX12_isSign_12 rfl ?_
  refine r_bipush (x := 41) dX12_isSign_13 rfl ?_
  refine r_icmp_eq (tgt := 66) dX12_isSign_15 rfl (fun h3 => ?_) (fun h3 => ?_)
  · refine r_iconst (x := 1) dX12_isSign_66 rfl ?_
    refine r_goto (tgt := 71) dX12_isSign_67 rfl ?_
    exact r_iret (ty := .boolean) dX12_isSign_71 rfl rfl rfl
  refine r_iload_n dX12_isSign_18 rfl ?_
  refine r_bipush (x := 60) dX12_isSign_19 rfl ?_
  refine r_icmp_eq (tgt := 66) dX12_isSign_21 rfl (fun h4 => ?_) (fun h4 => ?_)
  · refine r_iconst (x := 1) dX12_isSign_66 rfl ?_
    refine r_goto (tgt := 71) dX12_isSign_67 rfl ?_
    exact r_iret (ty := .boolean) dX12_isSign_71 rfl rfl rfl
  refine r_iload_n dX12_isSign_24 rfl ?_
  refine r_bipush (x := 62) dX12_isSign_25 rfl ?_
  refine r_icmp_eq (tgt := 66) dX12_isSign_27 rfl (fun h5 => ?_) (fun h5 => ?_)
  · refine r_iconst (x := 1) dX12_isSign_66 rfl ?_
    refine r_goto (tgt := 71) dX12_isSign_67 rfl ?_
    exact r_iret (ty := .boolean) dX12_isSign_71 rfl rfl rfl
  refine r_iload_n dX12_isSign_30 rfl ?_
  refine r_bipush (x := 61) dX12_isSign_31 rfl ?_
  refine r_icmp_eq (tgt := 66) dX12_isSign_33 rfl (fun h6 => ?_) (fun h6 => ?_)
  · refine r_iconst (x := 1) dX12_isSign_66 rfl ?_
    refine r_goto (tgt := 71) dX12_isSign_67 rfl ?_
    exact r_iret (ty := .boolean) dX12_isSign_71 rfl rfl rfl
  refine r_iload_n dX12_isSign_36 rfl ?_
  refine r_bipush (x := 43) dX12_isSign_37 rfl ?_
  refine r_icmp_eq (tgt := 66) dX12_isSign_39 rfl (fun h7 => ?_) (fun h7 => ?_)
  · refine r_iconst (x := 1) dX12_isSign_66 rfl ?_
    refine r_goto (tgt := 71) dX12_isSign_67 rfl ?_
    exact r_iret (ty := .boolean) dX12_isSign_71 rfl rfl rfl
  refine r_iload_n dX12_isSign_42 rfl ?_
  refine r_bipush (x := 45) dX12_isSign_43 rfl ?_
  refine r_icmp_eq (tgt := 66) dX12_isSign_45 rfl (fun h8 => ?_) (fun h8 => ?_)
  · refine r_iconst (x := 1) dX12_isSign_66 rfl ?_
    refine r_goto (tgt := 71) dX12_isSign_67 rfl ?_
    exact r_iret (ty := .boolean) dX12_isSign_71 rfl rfl rfl
  refine r_iload_n dX12_isSign_48 rfl ?_
  refine r_bipush (x := 42) dX12_isSign_49 rfl ?_
  refine r_icmp_eq (tgt := 66) dX12_isSign_51 rfl (fun h9 => ?_) (fun h9 => ?_)
  · refine r_iconst (x := 1) dX12_isSign_66 rfl ?_
    refine r_goto (tgt := 71) dX12_isSign_67 rfl ?_
    exact r_iret (ty := .boolean) dX12_isSign_71 rfl rfl rfl
  refine r_iload_n dX12_isSign_54 rfl ?_
  refine r_bipush (x := 47) dX12_isSign_55 rfl ?_
  refine r_icmp_eq (tgt := 66) dX12_isSign_57 rfl (fun h10 => ?_) (fun h10 => ?_)
  · refine r_iconst (x := 1) dX12_isSign_66 rfl ?_
    refine r_goto (tgt := 71) dX12_isSign_67 rfl ?_
    exact r_iret (ty := .boolean) dX12_isSign_71 rfl rfl rfl
  refine r_iload_n dX12_isSign_60 rfl ?_
  refine r_bipush (x := 37) dX12_isSign_61 rfl ?_
  refine r_icmp_ne (tgt := 70) dX12_isSign_63 rfl (fun h11 => ?_) (fun h11 => ?_)
  · refine r_iconst (x := 1) dX12_isSign_66 rfl ?_
    refine r_goto (tgt := 71) dX12_isSign_67 rfl ?_
    exact r_iret (ty := .boolean) dX12_isSign_71 rfl rfl rfl
  refine r_iconst (x := 0) dX12_isSign_70 rfl ?_
  exact r_iret (ty := .boolean) dX12_isSign_71 rfl rfl rfl

theorem dX12_goOn_0 : decode cX12_goOn 0 = .ok (.aload_n 0, 1) := by decide +kernel
theorem dX12_goOn_1 : decode cX12_goOn 1 = .ok (.aload_n 0, 1) := by decide +kernel
theorem dX12_goOn_2 : decode cX12_goOn 2 = .ok (.getfield 233, 3) := by decide +kernel
theorem dX12_goOn_5 : decode cX12_goOn 5 = .ok (.putfield 236, 3) := by decide +kernel
theorem dX12_goOn_8 : decode cX12_goOn 8 = .ok (.aload_n 0, 1) := by decide +kernel
theorem dX12_goOn_9 : decode cX12_goOn 9 = .ok (.getfield 236, 3) := by decide +kernel
theorem dX12_goOn_12 : decode cX12_goOn 12 = .ok (.aload_n 0, 1) := by decide +kernel
theorem dX12_goOn_13 : decode cX12_goOn 13 = .ok (.getfield 185, 3) := by decide +kernel
theorem dX12_goOn_16 : decode cX12_goOn 16 = .ok (.if_icmp .ge 42, 3) := by decide +kernel
theorem dX12_goOn_19 : decode cX12_goOn 19 = .ok (.aload_n 0, 1) := by decide +kernel
theorem dX12_goOn_20 : decode cX12_goOn 20 = .ok (.aload_n 0, 1) := by decide +kernel
theorem dX12_goOn_21 : decode cX12_goOn 21 = .ok (.getfield 236, 3) := by decide +kernel
theorem dX12_goOn_24 : decode cX12_goOn 24 = .ok (.invokevirtual 239, 3) := by decide +kernel
theorem dX12_goOn_27 : decode cX12_goOn 27 = .ok (.bipush 32, 2) := by decide +kernel
theorem dX12_goOn_29 : decode cX12_goOn 29 = .ok (.if_icmp .eq 16, 3) := by decide +kernel
theorem dX12_goOn_32 : decode cX12_goOn 32 = .ok (.aload_n 0, 1) := by decide +kernel
theorem dX12_goOn_33 : decode cX12_goOn 33 = .ok (.aload_n 0, 1) := by decide +kernel
theorem dX12_goOn_34 : decode cX12_goOn 34 = .ok (.getfield 236, 3) := by decide +kernel
theorem dX12_goOn_37 : decode cX12_goOn 37 = .ok (.invokevirtual 239, 3) := by decide +kernel
theorem dX12_goOn_40 : decode cX12_goOn 40 = .ok (.bipush 10, 2) := by decide +kernel
theorem dX12_goOn_42 : decode cX12_goOn 42 = .ok (.if_icmp .ne 16, 3) := by decide +kernel
theorem dX12_goOn_45 : decode cX12_goOn 45 = .ok (.aload_n 0, 1) := by decide +kernel
theorem dX12_goOn_46 : decode cX12_goOn 46 = .ok (.dup, 1) := by decide +kernel
theorem dX12_goOn_47 : decode cX12_goOn 47 = .ok (.getfield 236, 3) := by decide +kernel
theorem dX12_goOn_50 : decode cX12_goOn 50 = .ok (.iconst 1, 1) := by decide +kernel
theorem dX12_goOn_51 : decode cX12_goOn 51 = .ok (.iadd, 1) := by decide +kernel
theorem dX12_goOn_52 : decode cX12_goOn 52 = .ok (.putfield 236, 3) := by decide +kernel
theorem dX12_goOn_55 : decode cX12_goOn 55 = .ok (.goto (-47), 3) := by decide +kernel
theorem dX12_goOn_58 : decode cX12_goOn 58 = .ok (.aload_n 0, 1) := by decide +kernel
theorem dX12_goOn_59 : decode cX12_goOn 59 = .ok (.aload_n 0, 1) := by decide +kernel
theorem dX12_goOn_60 : decode cX12_goOn 60 = .ok (.getfield 236, 3) := by decide +kernel
theorem dX12_goOn_63 : decode cX12_goOn 63 = .ok (.invokevirtual 239, 3) := by decide +kernel
theorem dX12_goOn_66 : decode cX12_goOn 66 = .ok (.istore_n 1, 1) := by decide +kernel
theorem dX12_goOn_67 : decode cX12_goOn 67 = .ok (.aload_n 0, 1) := by decide +kernel
theorem dX12_goOn_68 : decode cX12_goOn 68 = .ok (.aload_n 0, 1) := by decide +kernel
theorem dX12_goOn_69 : decode cX12_goOn 69 = .ok (.getfield 236, 3) := by decide +kernel
theorem dX12_goOn_72 : decode cX12_goOn 72 = .ok (.iconst 1, 1) := by decide +kernel
theorem dX12_goOn_73 : decode cX12_goOn 73 = .ok (.iadd, 1) := by decide +kernel
theorem dX12_goOn_74 : decode cX12_goOn 74 = .ok (.putfield 233, 3) := by decide +kernel
theorem dX12_goOn_77 : decode cX12_goOn 77 = .ok (.aload_n 0, 1) := by decide +kernel
theorem dX12_goOn_78 : decode cX12_goOn 78 = .ok (.getfield 236, 3) := by decide +kernel
theorem dX12_goOn_81 : decode cX12_goOn 81 = .ok (.aload_n 0, 1) := by decide +kernel
theorem dX12_goOn_82 : decode cX12_goOn 82 = .ok (.getfield 185, 3) := by decide +kernel
theorem dX12_goOn_85 : decode cX12_goOn 85 = .ok (.if_icmp .lt 27, 3) := by decide +kernel
theorem dX12_goOn_88 : decode cX12_goOn 88 = .ok (.aload_n 0, 1) := by decide +kernel
theorem dX12_goOn_89 : decode cX12_goOn 89 = .ok (.iconst 0, 1) := by decide +kernel
theorem dX12_goOn_90 : decode cX12_goOn 90 = .ok (.putfield 243, 3) := by decide +kernel
theorem dX12_goOn_93 : decode cX12_goOn 93 = .ok (.aload_n 0, 1) := by decide +kernel
theorem dX12_goOn_94 : decode cX12_goOn 94 = .ok (.aload_n 0, 1) := by decide +kernel
theorem dX12_goOn_95 : decode cX12_goOn 95 = .ok (.getfield 185, 3) := by decide +kernel
theorem dX12_goOn_98 : decode cX12_goOn 98 = .ok (.putfield 236, 3) := by decide +kernel
theorem dX12_goOn_101 : decode cX12_goOn 101 = .ok (.aload_n 0, 1) := by decide +kernel
theorem dX12_goOn_102 : decode cX12_goOn 102 = .ok (.aload_n 0, 1) := by decide +kernel
theorem dX12_goOn_103 : decode cX12_goOn 103 = .ok (.getfield 185, 3) := by decide +kernel
theorem dX12_goOn_106 : decode cX12_goOn 106 = .ok (.putfield 233, 3) := by decide +kernel
theorem dX12_goOn_109 : decode cX12_goOn 109 = .ok (.goto 268, 3) := by decide +kernel
theorem dX12_goOn_112 : decode cX12_goOn 112 = .ok (.iload_n 1, 1) := by decide +kernel
theorem dX12_goOn_113 : decode cX12_goOn 113 = .ok (.invokestatic 246, 3) := by decide +kernel
theorem dX12_goOn_116 : decode cX12_goOn 116 = .ok (.ifCond .eq 123, 3) := by decide +kernel
theorem dX12_goOn_119 : decode cX12_goOn 119 = .ok (.aload_n 0, 1) := by decide +kernel
theorem dX12_goOn_120 : decode cX12_goOn 120 = .ok (.aload_n 0, 1) := by decide +kernel
theorem dX12_goOn_121 : decode cX12_goOn 121 = .ok (.getfield 233, 3) := by decide +kernel
theorem dX12_goOn_124 : decode cX12_goOn 124 = .ok (.invokevirtual 239, 3) := by decide +kernel
theorem dX12_goOn_127 : decode cX12_goOn 127 = .ok (.invokestatic 246, 3) := by decide +kernel
theorem dX12_goOn_130 : decode cX12_goOn 130 = .ok (.ifCond .eq 16, 3) := by decide +kernel
theorem dX12_goOn_133 : decode cX12_goOn 133 = .ok (.aload_n 0, 1) := by decide +kernel
theorem dX12_goOn_134 : decode cX12_goOn 134 = .ok (.dup, 1) := by decide +kernel
theorem dX12_goOn_135 : decode cX12_goOn 135 = .ok (.getfield 233, 3) := by decide +kernel
theorem dX12_goOn_138 : decode cX12_goOn 138 = .ok (.iconst 1, 1) := by decide +kernel
theorem dX12_goOn_139 : decode cX12_goOn 139 = .ok (.iadd, 1) := by decide +kernel
theorem dX12_goOn_140 : decode cX12_goOn 140 = .ok (.putfield 233, 3) := by decide +kernel
theorem dX12_goOn_143 : decode cX12_goOn 143 = .ok (.goto (-24), 3) := by decide +kernel
theorem dX12_goOn_146 : decode cX12_goOn 146 = .ok (.aload_n 0, 1) := by decide +kernel
theorem dX12_goOn_147 : decode cX12_goOn 147 = .ok (.lconst 0, 1) := by decide +kernel
theorem dX12_goOn_148 : decode cX12_goOn 148 = .ok (.putfield 250, 3) := by decide +kernel
theorem dX12_goOn_151 : decode cX12_goOn 151 = .ok (.aload_n 0, 1) := by decide +kernel
theorem dX12_goOn_152 : decode cX12_goOn 152 = .ok (.getfield 236, 3) := by decide +kernel
theorem dX12_goOn_155 : decode cX12_goOn 155 = .ok (.istore_n 2, 1) := by decide +kernel
theorem dX12_goOn_156 : decode cX12_goOn 156 = .ok (.iload_n 2, 1) := by decide +kernel
theorem dX12_goOn_157 : decode cX12_goOn 157 = .ok (.aload_n 0, 1) := by decide +kernel
theorem dX12_goOn_158 : decode cX12_goOn 158 = .ok (.getfield 233, 3) := by decide +kernel
theorem dX12_goOn_161 : decode cX12_goOn 161 = .ok (.if_icmp .ge 38, 3) := by decide +kernel
theorem dX12_goOn_164 : decode cX12_goOn 164 = .ok (.iload_n 2, 1) := by decide +kernel
theorem dX12_goOn_165 : decode cX12_goOn 165 = .ok (.aload_n 0, 1) := by decide +kernel
theorem dX12_goOn_166 : decode cX12_goOn 166 = .ok (.getfield 236, 3) := by decide +kernel
theorem dX12_goOn_169 : decode cX12_goOn 169 = .ok (.bipush 8, 2) := by decide +kernel
theorem dX12_goOn_171 : decode cX12_goOn 171 = .ok (.iadd, 1) := by decide +kernel
theorem dX12_goOn_172 : decode cX12_goOn 172 = .ok (.if_icmp .ge 27, 3) := by decide +kernel
theorem dX12_goOn_175 : decode cX12_goOn 175 = .ok (.aload_n 0, 1) := by decide +kernel
theorem dX12_goOn_176 : decode cX12_goOn 176 = .ok (.aload_n 0, 1) := by decide +kernel
theorem dX12_goOn_177 : decode cX12_goOn 177 = .ok (.getfield 250, 3) := by decide +kernel
theorem dX12_goOn_180 : decode cX12_goOn 180 = .ok (.bipush 8, 2) := by decide +kernel
theorem dX12_goOn_182 : decode cX12_goOn 182 = .ok (.lshl, 1) := by decide +kernel
theorem dX12_goOn_183 : decode cX12_goOn 183 = .ok (.aload_n 0, 1) := by decide +kernel
theorem dX12_goOn_184 : decode cX12_goOn 184 = .ok (.iload_n 2, 1) := by decide +kernel
theorem dX12_goOn_185 : decode cX12_goOn 185 = .ok (.invokevirtual 239, 3) := by decide +kernel
theorem dX12_goOn_188 : decode cX12_goOn 188 = .ok (.i2l, 1) := by decide +kernel
theorem dX12_goOn_189 : decode cX12_goOn 189 = .ok (.lor, 1) := by decide +kernel
theorem dX12_goOn_190 : decode cX12_goOn 190 = .ok (.putfield 250, 3) := by decide +kernel
theorem dX12_goOn_193 : decode cX12_goOn 193 = .ok (.iinc 2 1, 3) := by decide +kernel
theorem dX12_goOn_196 : decode cX12_goOn 196 = .ok (.goto (-40), 3) := by decide +kernel
theorem dX12_goOn_199 : decode cX12_goOn 199 = .ok (.aload_n 0, 1) := by decide +kernel
theorem dX12_goOn_200 : decode cX12_goOn 200 = .ok (.aload_n 0, 1) := by decide +kernel
theorem dX12_goOn_201 : decode cX12_goOn 201 = .ok (.getfield 233, 3) := by decide +kernel
theorem dX12_goOn_204 : decode cX12_goOn 204 = .ok (.aload_n 0, 1) := by decide +kernel
theorem dX12_goOn_205 : decode cX12_goOn 205 = .ok (.getfield 236, 3) := by decide +kernel
theorem dX12_goOn_208 : decode cX12_goOn 208 = .ok (.isub, 1) := by decide +kernel
theorem dX12_goOn_209 : decode cX12_goOn 209 = .ok (.bipush 8, 2) := by decide +kernel
theorem dX12_goOn_211 : decode cX12_goOn 211 = .ok (.if_icmp .le 7, 3) := by decide +kernel
theorem dX12_goOn_214 : decode cX12_goOn 214 = .ok (.iconst 1, 1) := by decide +kernel
theorem dX12_goOn_215 : decode cX12_goOn 215 = .ok (.goto 18, 3) := by decide +kernel
theorem dX12_goOn_218 : decode cX12_goOn 218 = .ok (.aload_n 0, 1) := by decide +kernel
theorem dX12_goOn_219 : decode cX12_goOn 219 = .ok (.getfield 250, 3) := by decide +kernel
theorem dX12_goOn_222 : decode cX12_goOn 222 = .ok (.invokestatic 254, 3) := by decide +kernel
theorem dX12_goOn_225 : decode cX12_goOn 225 = .ok (.ifCond .eq 7, 3) := by decide +kernel
theorem dX12_goOn_228 : decode cX12_goOn 228 = .ok (.iconst 3, 1) := by decide +kernel
theorem dX12_goOn_229 : decode cX12_goOn 229 = .ok (.goto 4, 3) := by decide +kernel
theorem dX12_goOn_232 : decode cX12_goOn 232 = .ok (.iconst 2, 1) := by decide +kernel
theorem dX12_goOn_233 : decode cX12_goOn 233 = .ok (.putfield 243, 3) := by decide +kernel
theorem dX12_goOn_236 : decode cX12_goOn 236 = .ok (.goto 141, 3) := by decide +kernel
theorem dX12_goOn_239 : decode cX12_goOn 239 = .ok (.iload_n 1, 1) := by decide +kernel
theorem dX12_goOn_240 : decode cX12_goOn 240 = .ok (.invokestatic 258, 3) := by decide +kernel
theorem dX12_goOn_243 : decode cX12_goOn 243 = .ok (.ifCond .eq 118, 3) := by decide +kernel
theorem dX12_goOn_246 : decode cX12_goOn 246 = .ok (.aload_n 0, 1) := by decide +kernel
theorem dX12_goOn_247 : decode cX12_goOn 247 = .ok (.iconst 0, 1) := by decide +kernel
theorem dX12_goOn_248 : decode cX12_goOn 248 = .ok (.putfield 261, 3) := by decide +kernel
theorem dX12_goOn_251 : decode cX12_goOn 251 = .ok (.aload_n 0, 1) := by decide +kernel
theorem dX12_goOn_252 : decode cX12_goOn 252 = .ok (.aload_n 0, 1) := by decide +kernel
theorem dX12_goOn_253 : decode cX12_goOn 253 = .ok (.getfield 236, 3) := by decide +kernel
theorem dX12_goOn_256 : decode cX12_goOn 256 = .ok (.putfield 233, 3) := by decide +kernel
theorem dX12_goOn_259 : decode cX12_goOn 259 = .ok (.aload_n 0, 1) := by decide +kernel
theorem dX12_goOn_260 : decode cX12_goOn 260 = .ok (.aload_n 0, 1) := by decide +kernel
theorem dX12_goOn_261 : decode cX12_goOn 261 = .ok (.getfield 233, 3) := by decide +kernel
theorem dX12_goOn_264 : decode cX12_goOn 264 = .ok (.invokevirtual 239, 3) := by decide +kernel
theorem dX12_goOn_267 : decode cX12_goOn 267 = .ok (.invokestatic 258, 3) := by decide +kernel
theorem dX12_goOn_270 : decode cX12_goOn 270 = .ok (.ifCond .eq 52, 3) := by decide +kernel
theorem dX12_goOn_273 : decode cX12_goOn 273 = .ok (.aload_n 0, 1) := by decide +kernel
theorem dX12_goOn_274 : decode cX12_goOn 274 = .ok (.getfield 233, 3) := by decide +kernel
theorem dX12_goOn_277 : decode cX12_goOn 277 = .ok (.aload_n 0, 1) := by decide +kernel
theorem dX12_goOn_278 : decode cX12_goOn 278 = .ok (.getfield 236, 3) := by decide +kernel
theorem dX12_goOn_281 : decode cX12_goOn 281 = .ok (.isub, 1) := by decide +kernel
theorem dX12_goOn_282 : decode cX12_goOn 282 = .ok (.iconst 4, 1) := by decide +kernel
theorem dX12_goOn_283 : decode cX12_goOn 283 = .ok (.if_icmp .ge 26, 3) := by decide +kernel
theorem dX12_goOn_286 : decode cX12_goOn 286 = .ok (.aload_n 0, 1) := by decide +kernel
theorem dX12_goOn_287 : decode cX12_goOn 287 = .ok (.bipush 10, 2) := by decide +kernel
theorem dX12_goOn_289 : decode cX12_goOn 289 = .ok (.aload_n 0, 1) := by decide +kernel
theorem dX12_goOn_290 : decode cX12_goOn 290 = .ok (.getfield 261, 3) := by decide +kernel
theorem dX12_goOn_293 : decode cX12_goOn 293 = .ok (.imul, 1) := by decide +kernel
theorem dX12_goOn_294 : decode cX12_goOn 294 = .ok (.aload_n 0, 1) := by decide +kernel
theorem dX12_goOn_295 : decode cX12_goOn 295 = .ok (.aload_n 0, 1) := by decide +kernel
theorem dX12_goOn_296 : decode cX12_goOn 296 = .ok (.getfield 233, 3) := by decide +kernel
theorem dX12_goOn_299 : decode cX12_goOn 299 = .ok (.invokevirtual 239, 3) := by decide +kernel
theorem dX12_goOn_302 : decode cX12_goOn 302 = .ok (.iadd, 1) := by decide +kernel
theorem dX12_goOn_303 : decode cX12_goOn 303 = .ok (.bipush 48, 2) := by decide +kernel
theorem dX12_goOn_305 : decode cX12_goOn 305 = .ok (.isub, 1) := by decide +kernel
theorem dX12_goOn_306 : decode cX12_goOn 306 = .ok (.putfield 261, 3) := by decide +kernel
theorem dX12_goOn_309 : decode cX12_goOn 309 = .ok (.aload_n 0, 1) := by decide +kernel
theorem dX12_goOn_310 : decode cX12_goOn 310 = .ok (.dup, 1) := by decide +kernel
theorem dX12_goOn_311 : decode cX12_goOn 311 = .ok (.getfield 233, 3) := by decide +kernel
theorem dX12_goOn_314 : decode cX12_goOn 314 = .ok (.iconst 1, 1) := by decide +kernel
theorem dX12_goOn_315 : decode cX12_goOn 315 = .ok (.iadd, 1) := by decide +kernel
theorem dX12_goOn_316 : decode cX12_goOn 316 = .ok (.putfield 233, 3) := by decide +kernel
theorem dX12_goOn_319 : decode cX12_goOn 319 = .ok (.goto (-60), 3) := by decide +kernel
theorem dX12_goOn_322 : decode cX12_goOn 322 = .ok (.aload_n 0, 1) := by decide +kernel
theorem dX12_goOn_323 : decode cX12_goOn 323 = .ok (.aload_n 0, 1) := by decide +kernel
theorem dX12_goOn_324 : decode cX12_goOn 324 = .ok (.getfield 233, 3) := by decide +kernel
theorem dX12_goOn_327 : decode cX12_goOn 327 = .ok (.aload_n 0, 1) := by decide +kernel
theorem dX12_goOn_328 : decode cX12_goOn 328 = .ok (.getfield 236, 3) := by decide +kernel
theorem dX12_goOn_331 : decode cX12_goOn 331 = .ok (.isub, 1) := by decide +kernel
theorem dX12_goOn_332 : decode cX12_goOn 332 = .ok (.iconst 4, 1) := by decide +kernel
theorem dX12_goOn_333 : decode cX12_goOn 333 = .ok (.if_icmp .gt 17, 3) := by decide +kernel
theorem dX12_goOn_336 : decode cX12_goOn 336 = .ok (.aload_n 0, 1) := by decide +kernel
theorem dX12_goOn_337 : decode cX12_goOn 337 = .ok (.aload_n 0, 1) := by decide +kernel
theorem dX12_goOn_338 : decode cX12_goOn 338 = .ok (.getfield 233, 3) := by decide +kernel
theorem dX12_goOn_341 : decode cX12_goOn 341 = .ok (.invokevirtual 239, 3) := by decide +kernel
theorem dX12_goOn_344 : decode cX12_goOn 344 = .ok (.invokestatic 246, 3) := by decide +kernel
theorem dX12_goOn_347 : decode cX12_goOn 347 = .ok (.ifCond .eq 7, 3) := by decide +kernel
theorem dX12_goOn_350 : decode cX12_goOn 350 = .ok (.iconst 1, 1) := by decide +kernel
theorem dX12_goOn_351 : decode cX12_goOn 351 = .ok (.goto 4, 3) := by decide +kernel
theorem dX12_goOn_354 : decode cX12_goOn 354 = .ok (.iconst 4, 1) := by decide +kernel
theorem dX12_goOn_355 : decode cX12_goOn 355 = .ok (.putfield 243, 3) := by decide +kernel
theorem dX12_goOn_358 : decode cX12_goOn 358 = .ok (.goto 19, 3) := by decide +kernel
theorem dX12_goOn_361 : decode cX12_goOn 361 = .ok (.aload_n 0, 1) := by decide +kernel
theorem dX12_goOn_362 : decode cX12_goOn 362 = .ok (.iload_n 1, 1) := by decide +kernel
theorem dX12_goOn_363 : decode cX12_goOn 363 = .ok (.invokestatic 264, 3) := by decide +kernel
theorem dX12_goOn_366 : decode cX12_goOn 366 = .ok (.ifCond .eq 7, 3) := by decide +kernel
theorem dX12_goOn_369 : decode cX12_goOn 369 = .ok (.iconst 5, 1) := by decide +kernel
theorem dX12_goOn_370 : decode cX12_goOn 370 = .ok (.goto 4, 3) := by decide +kernel
theorem dX12_goOn_373 : decode cX12_goOn 373 = .ok (.iconst 1, 1) := by decide +kernel
theorem dX12_goOn_374 : decode cX12_goOn 374 = .ok (.putfield 243, 3) := by decide +kernel
theorem dX12_goOn_377 : decode cX12_goOn 377 = .ok (.return_, 1) := by decide +kernel
abbrev mi_X12_goOn : MI := (zTM, RX12, yX12_goOn, cX12_goOn, 3, none, 3)
theorem cal_X12_goOn : zCalV mi_X12_goOn 0 := ⟨⟨zTB_i7 125 (by decide +kernel), zTB_i7 124 (by decide +kernel), zTB_i0 48 (by decide +kernel), zTB_i1 13 (by decide +kernel)⟩, ⟨by decide, by decide, by decide +kernel⟩, by decide⟩
noncomputable def X12_goOn_L4 : Nat → Int32 → Mem → Option (Mem)
  | 0, _, _ => none
  | n + 1, c2, M =>
    if (M.1 0 7) ≤ c2 then
      some M
    else
    if ((M.1 0 6) + 8) ≤ c2 then
      some M
    else
    bo_ (X12_sign c2 M) fun v44 =>
    lt_ (uL M 0 10 (((M.2 0 10) <<< ((8 : Int32).toInt64 &&& 63)) ||| v44.toInt64)) fun M45 =>
    X12_goOn_L4 n (c2 + 1) M45
noncomputable def X12_goOn_L3 : Nat → Mem → Option (Mem)
  | 0, _ => none
  | n + 1, M =>
    bo_ (X12_sign (M.1 0 7) M) fun v36 =>
    if (X12_isLetter v36) = true then
      lt_ (uI M 0 7 ((M.1 0 7) + 1)) fun M38 =>
      X12_goOn_L3 n M38
    else
    some M
noncomputable def X12_goOn_L2 : Nat → Mem → Option (Mem)
  | 0, _ => none
  | n + 1, M =>
    bo_ (X12_sign (M.1 0 7) M) fun v21 =>
    if (X12_isDigit v21) = true then
      b1_ (α := Mem) (
        if 4 ≤ ((M.1 0 7) - (M.1 0 6)) then
          some M
        else
        bo_ (X12_sign (M.1 0 7) M) fun v24 =>
        lt_ (uI M 0 9 (((10 * (M.1 0 9)) + v24) - 48)) fun M25 =>
        some M25) fun M26 =>
      lt_ (uI M26 0 7 ((M26.1 0 7) + 1)) fun M27 =>
      X12_goOn_L2 n M27
    else
    some M
noncomputable def X12_goOn_L1 : Nat → Mem → Option (Mem)
  | 0, _ => none
  | n + 1, M =>
    b1_ (α := Bool) (
      if (M.1 0 3) ≤ (M.1 0 6) then
        some false
      else
      bo_ (X12_sign (M.1 0 6) M) fun v3 =>
      if v3 = 32 then
        some true
      else
      bo_ (X12_sign (M.1 0 6) M) fun v5 =>
      if v5 = 10 then
        some true
      else
      some false) fun t7 =>
    if t7 = true then
      lt_ (uI M 0 6 ((M.1 0 6) + 1)) fun M9 =>
      X12_goOn_L1 n M9
    else
    some M
noncomputable def X12_goOn (M : Mem) : Option (Mem) :=
  lt_ (uI M 0 6 (M.1 0 7)) fun M1 =>
  b1_ (α := Mem) (X12_goOn_L1 zFU M1) fun M10 =>
  bo_ (X12_sign (M10.1 0 6) M10) fun v11 =>
  lt_ (uI M10 0 7 ((M10.1 0 6) + 1)) fun M12 =>
  if (M12.1 0 6) < (M12.1 0 3) then
    if (X12_isLetter v11) = true then
      b1_ (α := Mem) (X12_goOn_L3 zFU M12) fun M39 =>
      lt_ (uL M39 0 10 0) fun M40 =>
      lt_ (α := Int32) (M40.1 0 6) fun y41 =>
      b1_ (α := Mem) (X12_goOn_L4 zFU y41 M40) fun M46 =>
      l1_ (α := Int32) (
        if ((M46.1 0 7) - (M46.1 0 6)) ≤ 8 then
          if (X12_isKept (M46.2 0 10)) = true then
            3
          else
          2
        else
        1) fun y49 =>
      lt_ (uI M46 0 8 y49) fun M50 =>
      some M50
    else
    if (X12_isDigit v11) = true then
      lt_ (uI M12 0 9 0) fun M19 =>
      lt_ (uI M19 0 7 (M19.1 0 6)) fun M20 =>
      b1_ (α := Mem) (X12_goOn_L2 zFU M20) fun M28 =>
      b1_ (α := Int32) (
        b1_ (α := Bool) (
          if 4 < ((M28.1 0 7) - (M28.1 0 6)) then
            some true
          else
          bo_ (X12_sign (M28.1 0 7) M28) fun v30 =>
          if (X12_isLetter v30) = true then
            some true
          else
          some false) fun t32 =>
        if t32 = true then
          some 1
        else
        some 4) fun y34 =>
      lt_ (uI M28 0 8 y34) fun M35 =>
      some M35
    else
    l1_ (α := Int32) (
      if (X12_isSign v11) = true then
        5
      else
      1) fun y17 =>
    lt_ (uI M12 0 8 y17) fun M18 =>
    some M18
  else
  lt_ (uI M12 0 8 0) fun M51 =>
  lt_ (uI M51 0 6 (M51.1 0 3)) fun M52 =>
  lt_ (uI M52 0 7 (M52.1 0 3)) fun M53 =>
  some M53
set_option maxRecDepth 100000 in
set_option maxHeartbeats 4000000 in
theorem X12_goOn_L4_ok (G : Gh) {dn : Option (Mem) → Option (Option Value × Mem)} (hs : dn none = none) (hx : ∀ (M46 : Mem), Wr G mi_X12_goOn dn 199 [some (.ref (G.2.2.2 (0))), none, none] [] M46 (some M46)) : ∀ (n : Nat) (c2 : Int32) (M : Mem), Wr G mi_X12_goOn dn 156 [some (.ref (G.2.2.2 (0))), none, some (.int c2)] [] M (X12_goOn_L4 n c2 M) := by
  intro n
  induction n with
  | zero => intro c2 M; exact r_none (by exact hs)
  | succ n ih =>
    intro c2 M
    rw [X12_goOn_L4]
    refine r_iload_n dX12_goOn_156 rfl ?_
    refine r_aload_n dX12_goOn_157 rfl ?_
    refine r_getf (v := .int (M.1 0 7)) dX12_goOn_158 fM_0_7 kX12 (by decide) lkf_X12_233 rfl ?_
    refine r_icmp_ge (tgt := 199) dX12_goOn_161 rfl (fun h42 => ?_) (fun h42 => ?_)
    · exact r_lk (hx M) (And.intro rfl True.intro)
    refine r_iload_n dX12_goOn_164 rfl ?_
    refine r_aload_n dX12_goOn_165 rfl ?_
    refine r_getf (v := .int (M.1 0 6)) dX12_goOn_166 fM_0_6 kX12 (by decide) lkf_X12_236 rfl ?_
    refine r_bipush (x := 8) dX12_goOn_169 rfl ?_
    refine r_iadd dX12_goOn_171 ?_
    refine r_icmp_ge (tgt := 199) dX12_goOn_172 rfl (fun h43 => ?_) (fun h43 => ?_)
    · exact r_lk (hx M) (And.intro rfl True.intro)
    refine r_aload_n dX12_goOn_175 rfl ?_
    refine r_aload_n dX12_goOn_176 rfl ?_
    refine r_getf (v := .long (M.2 0 10)) dX12_goOn_177 fM_0_10 kX12 (by decide) lkf_X12_250 rfl ?_
    refine r_bipush (x := 8) dX12_goOn_180 rfl ?_
    refine r_lshl dX12_goOn_182 ?_
    refine r_aload_n dX12_goOn_183 rfl ?_
    refine r_iload_n dX12_goOn_184 rfl ?_
    refine c_OI (by exact hs) (inv_V (mi := mi_X12_goOn) (b := 0) (rest := [.long ((M.2 0 10) <<< ((8 : Int32).toInt64 &&& 63)), .ref (G.2.2.2 (0))]) (X12_sign_ok G c2 M) rfl (by decide) dX12_goOn_185 lkm_X12_239 cal_X12_sign cM_0 rfl rfl (Nat.le_of_ble_eq_true rfl) rfl) (fun v44 => ?_)
    refine r_i2l dX12_goOn_188 ?_
    refine r_lor dX12_goOn_189 ?_
    refine r_putL dX12_goOn_190 fM_0_10 kX12 (by decide) rfl rfl lkf_X12_250 (fun M45 => ?_)
    refine r_iinc (y := c2 + 1) (lv' := [some (.ref (G.2.2.2 (0))), none, some (.int (c2 + 1))]) dX12_goOn_193 rfl rfl (Nat.le_of_ble_eq_true rfl) rfl rfl ?_
    refine r_goto (tgt := 156) dX12_goOn_196 rfl ?_
    exact r_lk (ih (c2 + 1) M45) (And.intro rfl (And.intro rfl True.intro))
set_option maxRecDepth 100000 in
set_option maxHeartbeats 4000000 in
theorem X12_goOn_L3_ok (G : Gh) {dn : Option (Mem) → Option (Option Value × Mem)} (hs : dn none = none) (hx : ∀ (M39 : Mem), Wr G mi_X12_goOn dn 146 [some (.ref (G.2.2.2 (0))), none, none] [] M39 (some M39)) : ∀ (n : Nat)  (M : Mem), Wr G mi_X12_goOn dn 119 [some (.ref (G.2.2.2 (0))), none, none] [] M (X12_goOn_L3 n M) := by
  intro n
  induction n with
  | zero => intro M; exact r_none (by exact hs)
  | succ n ih =>
    intro M
    rw [X12_goOn_L3]
    refine r_aload_n dX12_goOn_119 rfl ?_
    refine r_aload_n dX12_goOn_120 rfl ?_
    refine r_getf (v := .int (M.1 0 7)) dX12_goOn_121 fM_0_7 kX12 (by decide) lkf_X12_233 rfl ?_
    refine c_OI (by exact hs) (inv_V (mi := mi_X12_goOn) (b := 0) (rest := []) (X12_sign_ok G (M.1 0 7) M) rfl (by decide) dX12_goOn_124 lkm_X12_239 cal_X12_sign cM_0 rfl rfl (Nat.le_of_ble_eq_true rfl) rfl) (fun v36 => ?_)
    refine c_Z (inv_S (mi := mi_X12_goOn) (rest := []) (X12_isLetter_ok G v36 M) rfl (by decide) dX12_goOn_127 lkm_X12_246 cal_X12_isLetter rfl (Nat.le_of_ble_eq_true rfl) rfl) ?_
    refine r_ifz_eq (tgt := 146) dX12_goOn_130 rfl (fun h37 => ?_) (fun h37 => ?_)
    · refine r_aload_n dX12_goOn_133 rfl ?_
      refine r_dup dX12_goOn_134 rfl ?_
      refine r_getf (v := .int (M.1 0 7)) dX12_goOn_135 fM_0_7 kX12 (by decide) lkf_X12_233 rfl ?_
      refine r_iconst (x := 1) dX12_goOn_138 rfl ?_
      refine r_iadd dX12_goOn_139 ?_
      refine r_putI dX12_goOn_140 fM_0_7 kX12 (by decide) rfl rfl lkf_X12_233 (fun _ => rfl) rfl rfl (fun M38 => ?_)
      refine r_goto (tgt := 119) dX12_goOn_143 rfl ?_
      exact r_lk (ih M38) (And.intro rfl True.intro)
    exact r_lk (hx M) (And.intro rfl True.intro)
set_option maxRecDepth 100000 in
set_option maxHeartbeats 4000000 in
theorem X12_goOn_L2_ok (G : Gh) {dn : Option (Mem) → Option (Option Value × Mem)} (hs : dn none = none) (hx : ∀ (M28 : Mem), Wr G mi_X12_goOn dn 322 [some (.ref (G.2.2.2 (0))), none, none] [] M28 (some M28)) : ∀ (n : Nat)  (M : Mem), Wr G mi_X12_goOn dn 259 [some (.ref (G.2.2.2 (0))), none, none] [] M (X12_goOn_L2 n M) := by
  intro n
  induction n with
  | zero => intro M; exact r_none (by exact hs)
  | succ n ih =>
    intro M
    rw [X12_goOn_L2]
    refine r_aload_n dX12_goOn_259 rfl ?_
    refine r_aload_n dX12_goOn_260 rfl ?_
    refine r_getf (v := .int (M.1 0 7)) dX12_goOn_261 fM_0_7 kX12 (by decide) lkf_X12_233 rfl ?_
    refine c_OI (by exact hs) (inv_V (mi := mi_X12_goOn) (b := 0) (rest := []) (X12_sign_ok G (M.1 0 7) M) rfl (by decide) dX12_goOn_264 lkm_X12_239 cal_X12_sign cM_0 rfl rfl (Nat.le_of_ble_eq_true rfl) rfl) (fun v21 => ?_)
    refine c_Z (inv_S (mi := mi_X12_goOn) (rest := []) (X12_isDigit_ok G v21 M) rfl (by decide) dX12_goOn_267 lkm_X12_258 cal_X12_isDigit rfl (Nat.le_of_ble_eq_true rfl) rfl) ?_
    refine r_ifz_eq (tgt := 322) dX12_goOn_270 rfl (fun h22 => ?_) (fun h22 => ?_)
    · refine r_aload_n dX12_goOn_273 rfl ?_
      refine r_getf (v := .int (M.1 0 7)) dX12_goOn_274 fM_0_7 kX12 (by decide) lkf_X12_233 rfl ?_
      refine r_aload_n dX12_goOn_277 rfl ?_
      refine r_getf (v := .int (M.1 0 6)) dX12_goOn_278 fM_0_6 kX12 (by decide) lkf_X12_236 rfl ?_
      refine r_isub dX12_goOn_281 ?_
      refine r_iconst (x := 4) dX12_goOn_282 rfl ?_
      refine r_jB1 (j := 309) (lvj := fun M26 => [some (.ref (G.2.2.2 (0))), none, none]) (stj := fun M26 => []) (Mj := fun M26 => M26) (fun M26 => ?_) (fun hj309 => ?_)
      · refine r_aload_n dX12_goOn_309 rfl ?_
        refine r_dup dX12_goOn_310 rfl ?_
        refine r_getf (v := .int (M26.1 0 7)) dX12_goOn_311 fM_0_7 kX12 (by decide) lkf_X12_233 rfl ?_
        refine r_iconst (x := 1) dX12_goOn_314 rfl ?_
        refine r_iadd dX12_goOn_315 ?_
        refine r_putI dX12_goOn_316 fM_0_7 kX12 (by decide) rfl rfl lkf_X12_233 (fun _ => rfl) rfl rfl (fun M27 => ?_)
        refine r_goto (tgt := 259) dX12_goOn_319 rfl ?_
        exact r_lk (ih M27) (And.intro rfl True.intro)
      refine r_icmp_ge (tgt := 309) dX12_goOn_283 rfl (fun h23 => ?_) (fun h23 => ?_)
      · exact r_lk (hj309 M) (And.intro rfl True.intro)
      refine r_aload_n dX12_goOn_286 rfl ?_
      refine r_bipush (x := 10) dX12_goOn_287 rfl ?_
      refine r_aload_n dX12_goOn_289 rfl ?_
      refine r_getf (v := .int (M.1 0 9)) dX12_goOn_290 fM_0_9 kX12 (by decide) lkf_X12_261 rfl ?_
      refine r_imul dX12_goOn_293 ?_
      refine r_aload_n dX12_goOn_294 rfl ?_
      refine r_aload_n dX12_goOn_295 rfl ?_
      refine r_getf (v := .int (M.1 0 7)) dX12_goOn_296 fM_0_7 kX12 (by decide) lkf_X12_233 rfl ?_
      refine c_OI (by exact hs) (inv_V (mi := mi_X12_goOn) (b := 0) (rest := [.int (10 * (M.1 0 9)), .ref (G.2.2.2 (0))]) (X12_sign_ok G (M.1 0 7) M) rfl (by decide) dX12_goOn_299 lkm_X12_239 cal_X12_sign cM_0 rfl rfl (Nat.le_of_ble_eq_true rfl) rfl) (fun v24 => ?_)
      refine r_iadd dX12_goOn_302 ?_
      refine r_bipush (x := 48) dX12_goOn_303 rfl ?_
      refine r_isub dX12_goOn_305 ?_
      refine r_putI dX12_goOn_306 fM_0_9 kX12 (by decide) rfl rfl lkf_X12_261 (fun _ => rfl) rfl rfl (fun M25 => ?_)
      exact r_lk (hj309 M25) (And.intro rfl True.intro)
    exact r_lk (hx M) (And.intro rfl True.intro)
set_option maxRecDepth 100000 in
set_option maxHeartbeats 4000000 in
theorem X12_goOn_L1_ok (G : Gh) {dn : Option (Mem) → Option (Option Value × Mem)} (hs : dn none = none) (hx : ∀ (M10 : Mem), Wr G mi_X12_goOn dn 58 [some (.ref (G.2.2.2 (0))), none, none] [] M10 (some M10)) : ∀ (n : Nat)  (M : Mem), Wr G mi_X12_goOn dn 8 [some (.ref (G.2.2.2 (0))), none, none] [] M (X12_goOn_L1 n M) := by
  intro n
  induction n with
  | zero => intro M; exact r_none (by exact hs)
  | succ n ih =>
    intro M
    rw [X12_goOn_L1]
    refine r_aload_n dX12_goOn_8 rfl ?_
    refine r_getf (v := .int (M.1 0 6)) dX12_goOn_9 fM_0_6 kX12 (by decide) lkf_X12_236 rfl ?_
    refine r_aload_n dX12_goOn_12 rfl ?_
    refine r_getf (v := .int (M.1 0 3)) dX12_goOn_13 fM_0_3 kX12 (by decide) lkf_X12_185 rfl ?_
    refine r_cB (jX := 45) (jY := 58) (lvX := [some (.ref (G.2.2.2 (0))), none, none]) (lvY := [some (.ref (G.2.2.2 (0))), none, none]) (stX := []) (M1 := M) (fun h8 => ?_) (fun h8 => ?_) (fun hX45 hY58 => ?_)
    · refine r_eq (if_pos rfl) ?_
      refine r_aload_n dX12_goOn_45 rfl ?_
      refine r_dup dX12_goOn_46 rfl ?_
      refine r_getf (v := .int (M.1 0 6)) dX12_goOn_47 fM_0_6 kX12 (by decide) lkf_X12_236 rfl ?_
      refine r_iconst (x := 1) dX12_goOn_50 rfl ?_
      refine r_iadd dX12_goOn_51 ?_
      refine r_putI dX12_goOn_52 fM_0_6 kX12 (by decide) rfl rfl lkf_X12_236 (fun _ => rfl) rfl rfl (fun M9 => ?_)
      refine r_goto (tgt := 8) dX12_goOn_55 rfl ?_
      exact r_lk (ih M9) (And.intro rfl True.intro)
    · refine r_eq (if_neg (by decide)) ?_
      exact r_lk (hx M) (And.intro rfl True.intro)
    refine r_icmp_ge (tgt := 58) dX12_goOn_16 rfl (fun h2 => ?_) (fun h2 => ?_)
    · exact r_lk hY58 (And.intro rfl True.intro)
    refine r_aload_n dX12_goOn_19 rfl ?_
    refine r_aload_n dX12_goOn_20 rfl ?_
    refine r_getf (v := .int (M.1 0 6)) dX12_goOn_21 fM_0_6 kX12 (by decide) lkf_X12_236 rfl ?_
    refine c_OI (by exact hs) (inv_V (mi := mi_X12_goOn) (b := 0) (rest := []) (X12_sign_ok G (M.1 0 6) M) rfl (by decide) dX12_goOn_24 lkm_X12_239 cal_X12_sign cM_0 rfl rfl (Nat.le_of_ble_eq_true rfl) rfl) (fun v3 => ?_)
    refine r_bipush (x := 32) dX12_goOn_27 rfl ?_
    refine r_icmp_eq (tgt := 45) dX12_goOn_29 rfl (fun h4 => ?_) (fun h4 => ?_)
    · exact r_lk hX45 (And.intro rfl True.intro)
    refine r_aload_n dX12_goOn_32 rfl ?_
    refine r_aload_n dX12_goOn_33 rfl ?_
    refine r_getf (v := .int (M.1 0 6)) dX12_goOn_34 fM_0_6 kX12 (by decide) lkf_X12_236 rfl ?_
    refine c_OI (by exact hs) (inv_V (mi := mi_X12_goOn) (b := 0) (rest := []) (X12_sign_ok G (M.1 0 6) M) rfl (by decide) dX12_goOn_37 lkm_X12_239 cal_X12_sign cM_0 rfl rfl (Nat.le_of_ble_eq_true rfl) rfl) (fun v5 => ?_)
    refine r_bipush (x := 10) dX12_goOn_40 rfl ?_
    refine r_icmp_ne (tgt := 58) dX12_goOn_42 rfl (fun h6 => ?_) (fun h6 => ?_)
    · exact r_lk hX45 (And.intro rfl True.intro)
    exact r_lk hY58 (And.intro rfl True.intro)
set_option maxRecDepth 100000 in
set_option maxHeartbeats 4000000 in
theorem X12_goOn_ok (G : Gh) (M : Mem) : Mt G mi_X12_goOn [.ref (G.2.2.2 (0))] M ((dO dV) (X12_goOn M)) := by
  refine Mt_of (lv := [some (.ref (G.2.2.2 (0)))]) (by decide) rfl (Nat.le_of_ble_eq_true rfl) rfl ?_
  refine r_le (lv' := [some (.ref (G.2.2.2 (0))), none, none]) (And.intro rfl True.intro) ?_
  unfold X12_goOn
  refine r_aload_n dX12_goOn_0 rfl ?_
  refine r_aload_n dX12_goOn_1 rfl ?_
  refine r_getf (v := .int (M.1 0 7)) dX12_goOn_2 fM_0_7 kX12 (by decide) lkf_X12_233 rfl ?_
  refine r_putI dX12_goOn_5 fM_0_6 kX12 (by decide) rfl rfl lkf_X12_236 (fun _ => rfl) rfl rfl (fun M1 => ?_)
  refine r_jB1 (j := 58) (lvj := fun M10 => [some (.ref (G.2.2.2 (0))), none, none]) (stj := fun M10 => []) (Mj := fun M10 => M10) (fun M10 => ?_) (fun hj58 => ?_)
  · refine r_aload_n dX12_goOn_58 rfl ?_
    refine r_aload_n dX12_goOn_59 rfl ?_
    refine r_getf (v := .int (M10.1 0 6)) dX12_goOn_60 fM_0_6 kX12 (by decide) lkf_X12_236 rfl ?_
    refine c_OI rfl (inv_V (mi := mi_X12_goOn) (b := 0) (rest := []) (X12_sign_ok G (M10.1 0 6) M10) rfl (by decide) dX12_goOn_63 lkm_X12_239 cal_X12_sign cM_0 rfl rfl (Nat.le_of_ble_eq_true rfl) rfl) (fun v11 => ?_)
    refine r_istore_n (lv' := [some (.ref (G.2.2.2 (0))), some (.int v11), none]) dX12_goOn_66 (Nat.le_of_ble_eq_true rfl) rfl rfl ?_
    refine r_aload_n dX12_goOn_67 rfl ?_
    refine r_aload_n dX12_goOn_68 rfl ?_
    refine r_getf (v := .int (M10.1 0 6)) dX12_goOn_69 fM_0_6 kX12 (by decide) lkf_X12_236 rfl ?_
    refine r_iconst (x := 1) dX12_goOn_72 rfl ?_
    refine r_iadd dX12_goOn_73 ?_
    refine r_putI dX12_goOn_74 fM_0_7 kX12 (by decide) rfl rfl lkf_X12_233 (fun _ => rfl) rfl rfl (fun M12 => ?_)
    refine r_aload_n dX12_goOn_77 rfl ?_
    refine r_getf (v := .int (M12.1 0 6)) dX12_goOn_78 fM_0_6 kX12 (by decide) lkf_X12_236 rfl ?_
    refine r_aload_n dX12_goOn_81 rfl ?_
    refine r_getf (v := .int (M12.1 0 3)) dX12_goOn_82 fM_0_3 kX12 (by decide) lkf_X12_185 rfl ?_
    refine r_icmp_lt (tgt := 112) dX12_goOn_85 rfl (fun h13 => ?_) (fun h13 => ?_)
    · refine r_iload_n dX12_goOn_112 rfl ?_
      refine c_Z (inv_S (mi := mi_X12_goOn) (rest := []) (X12_isLetter_ok G v11 M12) rfl (by decide) dX12_goOn_113 lkm_X12_246 cal_X12_isLetter rfl (Nat.le_of_ble_eq_true rfl) rfl) ?_
      refine r_ifz_eq (tgt := 239) dX12_goOn_116 rfl (fun h14 => ?_) (fun h14 => ?_)
      · refine r_jB1 (j := 146) (lvj := fun M39 => [some (.ref (G.2.2.2 (0))), none, none]) (stj := fun M39 => []) (Mj := fun M39 => M39) (fun M39 => ?_) (fun hj146 => ?_)
        · refine r_aload_n dX12_goOn_146 rfl ?_
          refine r_lconst (x := 0) dX12_goOn_147 rfl ?_
          refine r_putL dX12_goOn_148 fM_0_10 kX12 (by decide) rfl rfl lkf_X12_250 (fun M40 => ?_)
          refine r_aload_n dX12_goOn_151 rfl ?_
          refine r_getf (v := .int (M40.1 0 6)) dX12_goOn_152 fM_0_6 kX12 (by decide) lkf_X12_236 rfl ?_
          refine r_letI (fun y41 => ?_)
          refine r_istore_n (lv' := [some (.ref (G.2.2.2 (0))), none, some (.int y41)]) dX12_goOn_155 (Nat.le_of_ble_eq_true rfl) rfl rfl ?_
          refine r_jB1 (j := 199) (lvj := fun M46 => [some (.ref (G.2.2.2 (0))), none, none]) (stj := fun M46 => []) (Mj := fun M46 => M46) (fun M46 => ?_) (fun hj199 => ?_)
          · refine r_aload_n dX12_goOn_199 rfl ?_
            refine r_aload_n dX12_goOn_200 rfl ?_
            refine r_getf (v := .int (M46.1 0 7)) dX12_goOn_201 fM_0_7 kX12 (by decide) lkf_X12_233 rfl ?_
            refine r_aload_n dX12_goOn_204 rfl ?_
            refine r_getf (v := .int (M46.1 0 6)) dX12_goOn_205 fM_0_6 kX12 (by decide) lkf_X12_236 rfl ?_
            refine r_isub dX12_goOn_208 ?_
            refine r_bipush (x := 8) dX12_goOn_209 rfl ?_
            refine r_jL1 (j := 233) (lvj := fun y49 => [none, none, none]) (stj := fun y49 => [.int y49, .ref (G.2.2.2 (0))]) (Mj := fun y49 => M46) (fun y49 => ?_) (fun hj233 => ?_)
            · refine r_putI dX12_goOn_233 fM_0_8 kX12 (by decide) rfl rfl lkf_X12_243 (fun _ => rfl) rfl rfl (fun M50 => ?_)
              refine r_goto (tgt := 377) dX12_goOn_236 rfl ?_
              exact r_vret dX12_goOn_377 rfl rfl
            refine r_icmp_le (tgt := 218) dX12_goOn_211 rfl (fun h47 => ?_) (fun h47 => ?_)
            · refine r_aload_n dX12_goOn_218 rfl ?_
              refine r_getf (v := .long (M46.2 0 10)) dX12_goOn_219 fM_0_10 kX12 (by decide) lkf_X12_250 rfl ?_
              refine c_Z (inv_S (mi := mi_X12_goOn) (rest := [.ref (G.2.2.2 (0))]) (X12_isKept_ok G (M46.2 0 10) M46) rfl (by decide) dX12_goOn_222 lkm_X12_254 cal_X12_isKept rfl (Nat.le_of_ble_eq_true rfl) rfl) ?_
              refine r_ifz_eq (tgt := 232) dX12_goOn_225 rfl (fun h48 => ?_) (fun h48 => ?_)
              · refine r_iconst (x := 3) dX12_goOn_228 rfl ?_
                refine r_goto (tgt := 233) dX12_goOn_229 rfl ?_
                exact r_lk (hj233 3) True.intro
              refine r_iconst (x := 2) dX12_goOn_232 rfl ?_
              exact r_lk (hj233 2) True.intro
            refine r_iconst (x := 1) dX12_goOn_214 rfl ?_
            refine r_goto (tgt := 233) dX12_goOn_215 rfl ?_
            exact r_lk (hj233 1) True.intro
          exact r_lk (X12_goOn_L4_ok G rfl hj199 zFU y41 M40) (And.intro rfl (And.intro rfl True.intro))
        exact r_lk (X12_goOn_L3_ok G rfl hj146 zFU M12) (And.intro rfl True.intro)
      refine r_iload_n dX12_goOn_239 rfl ?_
      refine c_Z (inv_S (mi := mi_X12_goOn) (rest := []) (X12_isDigit_ok G v11 M12) rfl (by decide) dX12_goOn_240 lkm_X12_258 cal_X12_isDigit rfl (Nat.le_of_ble_eq_true rfl) rfl) ?_
      refine r_ifz_eq (tgt := 361) dX12_goOn_243 rfl (fun h15 => ?_) (fun h15 => ?_)
      · refine r_aload_n dX12_goOn_246 rfl ?_
        refine r_iconst (x := 0) dX12_goOn_247 rfl ?_
        refine r_putI dX12_goOn_248 fM_0_9 kX12 (by decide) rfl rfl lkf_X12_261 (fun _ => rfl) rfl rfl (fun M19 => ?_)
        refine r_aload_n dX12_goOn_251 rfl ?_
        refine r_aload_n dX12_goOn_252 rfl ?_
        refine r_getf (v := .int (M19.1 0 6)) dX12_goOn_253 fM_0_6 kX12 (by decide) lkf_X12_236 rfl ?_
        refine r_putI dX12_goOn_256 fM_0_7 kX12 (by decide) rfl rfl lkf_X12_233 (fun _ => rfl) rfl rfl (fun M20 => ?_)
        refine r_jB1 (j := 322) (lvj := fun M28 => [some (.ref (G.2.2.2 (0))), none, none]) (stj := fun M28 => []) (Mj := fun M28 => M28) (fun M28 => ?_) (fun hj322 => ?_)
        · refine r_aload_n dX12_goOn_322 rfl ?_
          refine r_aload_n dX12_goOn_323 rfl ?_
          refine r_getf (v := .int (M28.1 0 7)) dX12_goOn_324 fM_0_7 kX12 (by decide) lkf_X12_233 rfl ?_
          refine r_aload_n dX12_goOn_327 rfl ?_
          refine r_getf (v := .int (M28.1 0 6)) dX12_goOn_328 fM_0_6 kX12 (by decide) lkf_X12_236 rfl ?_
          refine r_isub dX12_goOn_331 ?_
          refine r_iconst (x := 4) dX12_goOn_332 rfl ?_
          refine r_jB1 (j := 355) (lvj := fun y34 => [none, none, none]) (stj := fun y34 => [.int y34, .ref (G.2.2.2 (0))]) (Mj := fun y34 => M28) (fun y34 => ?_) (fun hj355 => ?_)
          · refine r_putI dX12_goOn_355 fM_0_8 kX12 (by decide) rfl rfl lkf_X12_243 (fun _ => rfl) rfl rfl (fun M35 => ?_)
            refine r_goto (tgt := 377) dX12_goOn_358 rfl ?_
            exact r_vret dX12_goOn_377 rfl rfl
          refine r_cB (jX := 350) (jY := 354) (lvX := [none, none, none]) (lvY := [none, none, none]) (stX := [.ref (G.2.2.2 (0))]) (M1 := M28) (fun h33 => ?_) (fun h33 => ?_) (fun hX350 hY354 => ?_)
          · refine r_eq (if_pos rfl) ?_
            refine r_iconst (x := 1) dX12_goOn_350 rfl ?_
            refine r_goto (tgt := 355) dX12_goOn_351 rfl ?_
            exact r_lk (hj355 1) True.intro
          · refine r_eq (if_neg (by decide)) ?_
            refine r_iconst (x := 4) dX12_goOn_354 rfl ?_
            exact r_lk (hj355 4) True.intro
          refine r_icmp_gt (tgt := 350) dX12_goOn_333 rfl (fun h29 => ?_) (fun h29 => ?_)
          · exact r_lk hX350 True.intro
          refine r_aload_n dX12_goOn_336 rfl ?_
          refine r_aload_n dX12_goOn_337 rfl ?_
          refine r_getf (v := .int (M28.1 0 7)) dX12_goOn_338 fM_0_7 kX12 (by decide) lkf_X12_233 rfl ?_
          refine c_OI rfl (inv_V (mi := mi_X12_goOn) (b := 0) (rest := [.ref (G.2.2.2 (0))]) (X12_sign_ok G (M28.1 0 7) M28) rfl (by decide) dX12_goOn_341 lkm_X12_239 cal_X12_sign cM_0 rfl rfl (Nat.le_of_ble_eq_true rfl) rfl) (fun v30 => ?_)
          refine c_Z (inv_S (mi := mi_X12_goOn) (rest := [.ref (G.2.2.2 (0))]) (X12_isLetter_ok G v30 M28) rfl (by decide) dX12_goOn_344 lkm_X12_246 cal_X12_isLetter rfl (Nat.le_of_ble_eq_true rfl) rfl) ?_
          refine r_ifz_eq (tgt := 354) dX12_goOn_347 rfl (fun h31 => ?_) (fun h31 => ?_)
          · exact r_lk hX350 True.intro
          exact r_lk hY354 True.intro
        exact r_lk (X12_goOn_L2_ok G rfl hj322 zFU M20) (And.intro rfl True.intro)
      refine r_aload_n dX12_goOn_361 rfl ?_
      refine r_iload_n dX12_goOn_362 rfl ?_
      refine c_Z (inv_S (mi := mi_X12_goOn) (rest := [.ref (G.2.2.2 (0))]) (X12_isSign_ok G v11 M12) rfl (by decide) dX12_goOn_363 lkm_X12_264 cal_X12_isSign rfl (Nat.le_of_ble_eq_true rfl) rfl) ?_
      refine r_jL1 (j := 374) (lvj := fun y17 => [none, none, none]) (stj := fun y17 => [.int y17, .ref (G.2.2.2 (0))]) (Mj := fun y17 => M12) (fun y17 => ?_) (fun hj374 => ?_)
      · refine r_putI dX12_goOn_374 fM_0_8 kX12 (by decide) rfl rfl lkf_X12_243 (fun _ => rfl) rfl rfl (fun M18 => ?_)
        exact r_vret dX12_goOn_377 rfl rfl
      refine r_ifz_eq (tgt := 373) dX12_goOn_366 rfl (fun h16 => ?_) (fun h16 => ?_)
      · refine r_iconst (x := 5) dX12_goOn_369 rfl ?_
        refine r_goto (tgt := 374) dX12_goOn_370 rfl ?_
        exact r_lk (hj374 5) True.intro
      refine r_iconst (x := 1) dX12_goOn_373 rfl ?_
      exact r_lk (hj374 1) True.intro
    refine r_aload_n dX12_goOn_88 rfl ?_
    refine r_iconst (x := 0) dX12_goOn_89 rfl ?_
    refine r_putI dX12_goOn_90 fM_0_8 kX12 (by decide) rfl rfl lkf_X12_243 (fun _ => rfl) rfl rfl (fun M51 => ?_)
    refine r_aload_n dX12_goOn_93 rfl ?_
    refine r_aload_n dX12_goOn_94 rfl ?_
    refine r_getf (v := .int (M51.1 0 3)) dX12_goOn_95 fM_0_3 kX12 (by decide) lkf_X12_185 rfl ?_
    refine r_putI dX12_goOn_98 fM_0_6 kX12 (by decide) rfl rfl lkf_X12_236 (fun _ => rfl) rfl rfl (fun M52 => ?_)
    refine r_aload_n dX12_goOn_101 rfl ?_
    refine r_aload_n dX12_goOn_102 rfl ?_
    refine r_getf (v := .int (M52.1 0 3)) dX12_goOn_103 fM_0_3 kX12 (by decide) lkf_X12_185 rfl ?_
    refine r_putI dX12_goOn_106 fM_0_7 kX12 (by decide) rfl rfl lkf_X12_233 (fun _ => rfl) rfl rfl (fun M53 => ?_)
    refine r_goto (tgt := 377) dX12_goOn_109 rfl ?_
    exact r_vret dX12_goOn_377 rfl rfl
  exact r_lk (X12_goOn_L1_ok G rfl hj58 zFU M1) (And.intro rfl True.intro)

theorem dX12_isGood_0 : decode cX12_isGood 0 = .ok (.aload_n 0, 1) := by decide +kernel
theorem dX12_isGood_1 : decode cX12_isGood 1 = .ok (.getfield 188, 3) := by decide +kernel
theorem dX12_isGood_4 : decode cX12_isGood 4 = .ok (.ifCond .ne 7, 3) := by decide +kernel
theorem dX12_isGood_7 : decode cX12_isGood 7 = .ok (.iconst 1, 1) := by decide +kernel
theorem dX12_isGood_8 : decode cX12_isGood 8 = .ok (.goto 4, 3) := by decide +kernel
theorem dX12_isGood_11 : decode cX12_isGood 11 = .ok (.iconst 0, 1) := by decide +kernel
theorem dX12_isGood_12 : decode cX12_isGood 12 = .ok (.ireturn, 1) := by decide +kernel
abbrev mi_X12_isGood : MI := (zTM, RX12, yX12_isGood, cX12_isGood, 1, (some .boolean), 2)
theorem cal_X12_isGood : zCalV mi_X12_isGood 0 := ⟨⟨zTB_i7 166 (by decide +kernel), zTB_i7 165 (by decide +kernel), zTB_i0 50 (by decide +kernel), zTB_i1 13 (by decide +kernel)⟩, ⟨by decide, by decide, by decide +kernel⟩, by decide⟩
noncomputable def X12_isGood (M : Mem) : Bool :=
  if (M.1 0 4) = 0 then
    true
  else
  false
set_option maxRecDepth 100000 in
set_option maxHeartbeats 4000000 in
theorem X12_isGood_ok (G : Gh) (M : Mem) : Mt G mi_X12_isGood [.ref (G.2.2.2 (0))] M ((dZ M) (X12_isGood M)) := by
  refine Mt_of (lv := [some (.ref (G.2.2.2 (0)))]) (by decide) rfl (Nat.le_of_ble_eq_true rfl) rfl ?_
  unfold X12_isGood
  refine r_aload_n dX12_isGood_0 rfl ?_
  refine r_getf (v := .int (M.1 0 4)) dX12_isGood_1 fM_0_4 kX12 (by decide) lkf_X12_188 rfl ?_
  refine r_if_ne (tgt := 11) dX12_isGood_4 rfl (fun h1 => ?_) (fun h1 => ?_)
  · refine r_iconst (x := 1) dX12_isGood_7 rfl ?_
    refine r_goto (tgt := 12) dX12_isGood_8 rfl ?_
    exact r_iret (ty := .boolean) dX12_isGood_12 rfl rfl rfl
  refine r_iconst (x := 0) dX12_isGood_11 rfl ?_
  exact r_iret (ty := .boolean) dX12_isGood_12 rfl rfl rfl

theorem dX12_isWord_0 : decode cX12_isWord 0 = .ok (.aload_n 0, 1) := by decide +kernel
theorem dX12_isWord_1 : decode cX12_isWord 1 = .ok (.getfield 243, 3) := by decide +kernel
theorem dX12_isWord_4 : decode cX12_isWord 4 = .ok (.iconst 3, 1) := by decide +kernel
theorem dX12_isWord_5 : decode cX12_isWord 5 = .ok (.if_icmp .ne 16, 3) := by decide +kernel
theorem dX12_isWord_8 : decode cX12_isWord 8 = .ok (.aload_n 0, 1) := by decide +kernel
theorem dX12_isWord_9 : decode cX12_isWord 9 = .ok (.getfield 250, 3) := by decide +kernel
theorem dX12_isWord_12 : decode cX12_isWord 12 = .ok (.lload_n 1, 1) := by decide +kernel
theorem dX12_isWord_13 : decode cX12_isWord 13 = .ok (.lcmp, 1) := by decide +kernel
theorem dX12_isWord_14 : decode cX12_isWord 14 = .ok (.ifCond .ne 7, 3) := by decide +kernel
theorem dX12_isWord_17 : decode cX12_isWord 17 = .ok (.iconst 1, 1) := by decide +kernel
theorem dX12_isWord_18 : decode cX12_isWord 18 = .ok (.goto 4, 3) := by decide +kernel
theorem dX12_isWord_21 : decode cX12_isWord 21 = .ok (.iconst 0, 1) := by decide +kernel
theorem dX12_isWord_22 : decode cX12_isWord 22 = .ok (.ireturn, 1) := by decide +kernel
abbrev mi_X12_isWord : MI := (zTM, RX12, yX12_isWord, cX12_isWord, 3, (some .boolean), 2)
theorem cal_X12_isWord : zCalV mi_X12_isWord 1 := ⟨⟨zTB_i7 178 (by decide +kernel), zTB_i7 177 (by decide +kernel), zTB_i0 53 (by decide +kernel), zTB_i1 13 (by decide +kernel)⟩, ⟨by decide, by decide, by decide +kernel⟩, by decide⟩
noncomputable def X12_isWord (x1 : Int64) (M : Mem) : Bool :=
  if (M.1 0 8) = 3 then
    if (lg_cmp (M.2 0 10) x1) = 0 then
      true
    else
    false
  else
  false
set_option maxRecDepth 100000 in
set_option maxHeartbeats 4000000 in
theorem X12_isWord_ok (G : Gh) (x1 : Int64) (M : Mem) : Mt G mi_X12_isWord [.ref (G.2.2.2 (0)), .long (x1)] M ((dZ M) (X12_isWord x1 M)) := by
  refine Mt_of (lv := [some (.ref (G.2.2.2 (0))), some (.long (x1)), none]) (by decide) rfl (Nat.le_of_ble_eq_true rfl) rfl ?_
  unfold X12_isWord
  refine r_aload_n dX12_isWord_0 rfl ?_
  refine r_getf (v := .int (M.1 0 8)) dX12_isWord_1 fM_0_8 kX12 (by decide) lkf_X12_243 rfl ?_
  refine r_iconst (x := 3) dX12_isWord_4 rfl ?_
  refine r_icmp_ne (tgt := 21) dX12_isWord_5 rfl (fun h1 => ?_) (fun h1 => ?_)
  · refine r_aload_n dX12_isWord_8 rfl ?_
    refine r_getf (v := .long (M.2 0 10)) dX12_isWord_9 fM_0_10 kX12 (by decide) lkf_X12_250 rfl ?_
    refine r_lload_n dX12_isWord_12 rfl ?_
    refine r_lcmp dX12_isWord_13 ?_
    refine r_if_ne (tgt := 21) dX12_isWord_14 rfl (fun h2 => ?_) (fun h2 => ?_)
    · refine r_iconst (x := 1) dX12_isWord_17 rfl ?_
      refine r_goto (tgt := 22) dX12_isWord_18 rfl ?_
      exact r_iret (ty := .boolean) dX12_isWord_22 rfl rfl rfl
    refine r_iconst (x := 0) dX12_isWord_21 rfl ?_
    exact r_iret (ty := .boolean) dX12_isWord_22 rfl rfl rfl
  refine r_iconst (x := 0) dX12_isWord_21 rfl ?_
  exact r_iret (ty := .boolean) dX12_isWord_22 rfl rfl rfl

theorem dX12_isFull_0 : decode cX12_isFull 0 = .ok (.aload_n 0, 1) := by decide +kernel
theorem dX12_isFull_1 : decode cX12_isFull 1 = .ok (.ldc2_w 191, 3) := by decide +kernel
theorem dX12_isFull_4 : decode cX12_isFull 4 = .ok (.invokevirtual 281, 3) := by decide +kernel
theorem dX12_isFull_7 : decode cX12_isFull 7 = .ok (.ifCond .eq 22, 3) := by decide +kernel
theorem dX12_isFull_10 : decode cX12_isFull 10 = .ok (.aload_n 0, 1) := by decide +kernel
theorem dX12_isFull_11 : decode cX12_isFull 11 = .ok (.getfield 20, 3) := by decide +kernel
theorem dX12_isFull_14 : decode cX12_isFull 14 = .ok (.aload_n 0, 1) := by decide +kernel
theorem dX12_isFull_15 : decode cX12_isFull 15 = .ok (.getfield 292, 3) := by decide +kernel
theorem dX12_isFull_18 : decode cX12_isFull 18 = .ok (.iaload, 1) := by decide +kernel
theorem dX12_isFull_19 : decode cX12_isFull 19 = .ok (.iconst 3, 1) := by decide +kernel
theorem dX12_isFull_20 : decode cX12_isFull 20 = .ok (.if_icmp .ne 7, 3) := by decide +kernel
theorem dX12_isFull_23 : decode cX12_isFull 23 = .ok (.iconst 1, 1) := by decide +kernel
theorem dX12_isFull_24 : decode cX12_isFull 24 = .ok (.goto 4, 3) := by decide +kernel
theorem dX12_isFull_27 : decode cX12_isFull 27 = .ok (.iconst 0, 1) := by decide +kernel
theorem dX12_isFull_28 : decode cX12_isFull 28 = .ok (.ireturn, 1) := by decide +kernel
theorem dX12_isFull_29 : decode cX12_isFull 29 = .ok (.aload_n 0, 1) := by decide +kernel
theorem dX12_isFull_30 : decode cX12_isFull 30 = .ok (.ldc2_w 193, 3) := by decide +kernel
theorem dX12_isFull_33 : decode cX12_isFull 33 = .ok (.invokevirtual 281, 3) := by decide +kernel
theorem dX12_isFull_36 : decode cX12_isFull 36 = .ok (.ifCond .eq 22, 3) := by decide +kernel
theorem dX12_isFull_39 : decode cX12_isFull 39 = .ok (.aload_n 0, 1) := by decide +kernel
theorem dX12_isFull_40 : decode cX12_isFull 40 = .ok (.getfield 24, 3) := by decide +kernel
theorem dX12_isFull_43 : decode cX12_isFull 43 = .ok (.aload_n 0, 1) := by decide +kernel
theorem dX12_isFull_44 : decode cX12_isFull 44 = .ok (.getfield 292, 3) := by decide +kernel
theorem dX12_isFull_47 : decode cX12_isFull 47 = .ok (.iaload, 1) := by decide +kernel
theorem dX12_isFull_48 : decode cX12_isFull 48 = .ok (.iconst 5, 1) := by decide +kernel
theorem dX12_isFull_49 : decode cX12_isFull 49 = .ok (.if_icmp .ne 7, 3) := by decide +kernel
theorem dX12_isFull_52 : decode cX12_isFull 52 = .ok (.iconst 1, 1) := by decide +kernel
theorem dX12_isFull_53 : decode cX12_isFull 53 = .ok (.goto 4, 3) := by decide +kernel
theorem dX12_isFull_56 : decode cX12_isFull 56 = .ok (.iconst 0, 1) := by decide +kernel
theorem dX12_isFull_57 : decode cX12_isFull 57 = .ok (.ireturn, 1) := by decide +kernel
theorem dX12_isFull_58 : decode cX12_isFull 58 = .ok (.aload_n 0, 1) := by decide +kernel
theorem dX12_isFull_59 : decode cX12_isFull 59 = .ok (.ldc2_w 209, 3) := by decide +kernel
theorem dX12_isFull_62 : decode cX12_isFull 62 = .ok (.invokevirtual 281, 3) := by decide +kernel
theorem dX12_isFull_65 : decode cX12_isFull 65 = .ok (.ifCond .eq 22, 3) := by decide +kernel
theorem dX12_isFull_68 : decode cX12_isFull 68 = .ok (.aload_n 0, 1) := by decide +kernel
theorem dX12_isFull_69 : decode cX12_isFull 69 = .ok (.getfield 27, 3) := by decide +kernel
theorem dX12_isFull_72 : decode cX12_isFull 72 = .ok (.aload_n 0, 1) := by decide +kernel
theorem dX12_isFull_73 : decode cX12_isFull 73 = .ok (.getfield 292, 3) := by decide +kernel
theorem dX12_isFull_76 : decode cX12_isFull 76 = .ok (.iaload, 1) := by decide +kernel
theorem dX12_isFull_77 : decode cX12_isFull 77 = .ok (.iconst 5, 1) := by decide +kernel
theorem dX12_isFull_78 : decode cX12_isFull 78 = .ok (.if_icmp .ne 7, 3) := by decide +kernel
theorem dX12_isFull_81 : decode cX12_isFull 81 = .ok (.iconst 1, 1) := by decide +kernel
theorem dX12_isFull_82 : decode cX12_isFull 82 = .ok (.goto 4, 3) := by decide +kernel
theorem dX12_isFull_85 : decode cX12_isFull 85 = .ok (.iconst 0, 1) := by decide +kernel
theorem dX12_isFull_86 : decode cX12_isFull 86 = .ok (.ireturn, 1) := by decide +kernel
theorem dX12_isFull_87 : decode cX12_isFull 87 = .ok (.aload_n 0, 1) := by decide +kernel
theorem dX12_isFull_88 : decode cX12_isFull 88 = .ok (.ldc2_w 211, 3) := by decide +kernel
theorem dX12_isFull_91 : decode cX12_isFull 91 = .ok (.invokevirtual 281, 3) := by decide +kernel
theorem dX12_isFull_94 : decode cX12_isFull 94 = .ok (.ifCond .eq 13, 3) := by decide +kernel
theorem dX12_isFull_97 : decode cX12_isFull 97 = .ok (.aload_n 0, 1) := by decide +kernel
theorem dX12_isFull_98 : decode cX12_isFull 98 = .ok (.getfield 81, 3) := by decide +kernel
theorem dX12_isFull_101 : decode cX12_isFull 101 = .ok (.aload_n 0, 1) := by decide +kernel
theorem dX12_isFull_102 : decode cX12_isFull 102 = .ok (.getfield 292, 3) := by decide +kernel
theorem dX12_isFull_105 : decode cX12_isFull 105 = .ok (.baload, 1) := by decide +kernel
theorem dX12_isFull_106 : decode cX12_isFull 106 = .ok (.ireturn, 1) := by decide +kernel
theorem dX12_isFull_107 : decode cX12_isFull 107 = .ok (.aload_n 0, 1) := by decide +kernel
theorem dX12_isFull_108 : decode cX12_isFull 108 = .ok (.ldc2_w 213, 3) := by decide +kernel
theorem dX12_isFull_111 : decode cX12_isFull 111 = .ok (.invokevirtual 281, 3) := by decide +kernel
theorem dX12_isFull_114 : decode cX12_isFull 114 = .ok (.ifCond .eq 13, 3) := by decide +kernel
theorem dX12_isFull_117 : decode cX12_isFull 117 = .ok (.aload_n 0, 1) := by decide +kernel
theorem dX12_isFull_118 : decode cX12_isFull 118 = .ok (.getfield 85, 3) := by decide +kernel
theorem dX12_isFull_121 : decode cX12_isFull 121 = .ok (.aload_n 0, 1) := by decide +kernel
theorem dX12_isFull_122 : decode cX12_isFull 122 = .ok (.getfield 292, 3) := by decide +kernel
theorem dX12_isFull_125 : decode cX12_isFull 125 = .ok (.baload, 1) := by decide +kernel
theorem dX12_isFull_126 : decode cX12_isFull 126 = .ok (.ireturn, 1) := by decide +kernel
theorem dX12_isFull_127 : decode cX12_isFull 127 = .ok (.aload_n 0, 1) := by decide +kernel
theorem dX12_isFull_128 : decode cX12_isFull 128 = .ok (.ldc2_w 215, 3) := by decide +kernel
theorem dX12_isFull_131 : decode cX12_isFull 131 = .ok (.invokevirtual 281, 3) := by decide +kernel
theorem dX12_isFull_134 : decode cX12_isFull 134 = .ok (.ifCond .eq 13, 3) := by decide +kernel
theorem dX12_isFull_137 : decode cX12_isFull 137 = .ok (.aload_n 0, 1) := by decide +kernel
theorem dX12_isFull_138 : decode cX12_isFull 138 = .ok (.getfield 88, 3) := by decide +kernel
theorem dX12_isFull_141 : decode cX12_isFull 141 = .ok (.aload_n 0, 1) := by decide +kernel
theorem dX12_isFull_142 : decode cX12_isFull 142 = .ok (.getfield 292, 3) := by decide +kernel
theorem dX12_isFull_145 : decode cX12_isFull 145 = .ok (.baload, 1) := by decide +kernel
theorem dX12_isFull_146 : decode cX12_isFull 146 = .ok (.ireturn, 1) := by decide +kernel
theorem dX12_isFull_147 : decode cX12_isFull 147 = .ok (.aload_n 0, 1) := by decide +kernel
theorem dX12_isFull_148 : decode cX12_isFull 148 = .ok (.ldc2_w 199, 3) := by decide +kernel
theorem dX12_isFull_151 : decode cX12_isFull 151 = .ok (.invokevirtual 281, 3) := by decide +kernel
theorem dX12_isFull_154 : decode cX12_isFull 154 = .ok (.ifCond .ne 37, 3) := by decide +kernel
theorem dX12_isFull_157 : decode cX12_isFull 157 = .ok (.aload_n 0, 1) := by decide +kernel
theorem dX12_isFull_158 : decode cX12_isFull 158 = .ok (.ldc2_w 201, 3) := by decide +kernel
theorem dX12_isFull_161 : decode cX12_isFull 161 = .ok (.invokevirtual 281, 3) := by decide +kernel
theorem dX12_isFull_164 : decode cX12_isFull 164 = .ok (.ifCond .ne 27, 3) := by decide +kernel
theorem dX12_isFull_167 : decode cX12_isFull 167 = .ok (.aload_n 0, 1) := by decide +kernel
theorem dX12_isFull_168 : decode cX12_isFull 168 = .ok (.ldc2_w 203, 3) := by decide +kernel
theorem dX12_isFull_171 : decode cX12_isFull 171 = .ok (.invokevirtual 281, 3) := by decide +kernel
theorem dX12_isFull_174 : decode cX12_isFull 174 = .ok (.ifCond .ne 17, 3) := by decide +kernel
theorem dX12_isFull_177 : decode cX12_isFull 177 = .ok (.aload_n 0, 1) := by decide +kernel
theorem dX12_isFull_178 : decode cX12_isFull 178 = .ok (.ldc2_w 205, 3) := by decide +kernel
theorem dX12_isFull_181 : decode cX12_isFull 181 = .ok (.invokevirtual 281, 3) := by decide +kernel
theorem dX12_isFull_184 : decode cX12_isFull 184 = .ok (.ifCond .ne 7, 3) := by decide +kernel
theorem dX12_isFull_187 : decode cX12_isFull 187 = .ok (.iconst 1, 1) := by decide +kernel
theorem dX12_isFull_188 : decode cX12_isFull 188 = .ok (.goto 4, 3) := by decide +kernel
theorem dX12_isFull_191 : decode cX12_isFull 191 = .ok (.iconst 0, 1) := by decide +kernel
theorem dX12_isFull_192 : decode cX12_isFull 192 = .ok (.ireturn, 1) := by decide +kernel
abbrev mi_X12_isFull : MI := (zTM, RX12, yX12_isFull, cX12_isFull, 1, (some .boolean), 3)
theorem cal_X12_isFull : zCalV mi_X12_isFull 0 := ⟨⟨zTB_i7 174 (by decide +kernel), zTB_i7 173 (by decide +kernel), zTB_i0 52 (by decide +kernel), zTB_i1 13 (by decide +kernel)⟩, ⟨by decide, by decide, by decide +kernel⟩, by decide⟩
noncomputable def X12_isFull (M : Mem) : Option (Bool) :=
  if (X12_isWord 1802071652 M) = true then
    gd_ (inb (M.1 0 42) (2) = true) (
    if (M.1 3 ((M.1 0 42).toNatClampNeg)) = 3 then
      some true
    else
    some false)
  else
  if (X12_isWord 7168366 M) = true then
    gd_ (inb (M.1 0 42) (2) = true) (
    if (M.1 4 ((M.1 0 42).toNatClampNeg)) = 5 then
      some true
    else
    some false)
  else
  if (X12_isWord 1651470187 M) = true then
    gd_ (inb (M.1 0 42) (2) = true) (
    if (M.1 5 ((M.1 0 42).toNatClampNeg)) = 5 then
      some true
    else
    some false)
  else
  if (X12_isWord 1735552887 M) = true then
    gd_ (inb (M.1 0 42) (2) = true) (
    gd_ ((M.1 23 ((M.1 0 42).toNatClampNeg)) = 0 ∨ (M.1 23 ((M.1 0 42).toNatClampNeg)) = 1) (some (decide ((M.1 23 ((M.1 0 42).toNatClampNeg)) = 1))))
  else
  if (X12_isWord 448546566771 M) = true then
    gd_ (inb (M.1 0 42) (2) = true) (
    gd_ ((M.1 24 ((M.1 0 42).toNatClampNeg)) = 0 ∨ (M.1 24 ((M.1 0 42).toNatClampNeg)) = 1) (some (decide ((M.1 24 ((M.1 0 42).toNatClampNeg)) = 1))))
  else
  if (X12_isWord 1685217655 M) = true then
    gd_ (inb (M.1 0 42) (2) = true) (
    gd_ ((M.1 25 ((M.1 0 42).toNatClampNeg)) = 0 ∨ (M.1 25 ((M.1 0 42).toNatClampNeg)) = 1) (some (decide ((M.1 25 ((M.1 0 42).toNatClampNeg)) = 1))))
  else
  if (X12_isWord 483006772069 M) = true then
    some false
  else
  if (X12_isWord 7364985 M) = true then
    some false
  else
  if (X12_isWord 448377677669 M) = true then
    some false
  else
  if (X12_isWord 1918989413 M) = true then
    some false
  else
  some true
set_option maxRecDepth 100000 in
set_option maxHeartbeats 4000000 in
theorem X12_isFull_ok (G : Gh) (M : Mem) : Mt G mi_X12_isFull [.ref (G.2.2.2 (0))] M ((dO (dZ M)) (X12_isFull M)) := by
  refine Mt_of (lv := [some (.ref (G.2.2.2 (0)))]) (by decide) rfl (Nat.le_of_ble_eq_true rfl) rfl ?_
  unfold X12_isFull
  refine r_aload_n dX12_isFull_0 rfl ?_
  refine r_ldc2 (x := 1802071652) dX12_isFull_1 lkc_X12_191 ?_
  refine c_Z (inv_V (mi := mi_X12_isFull) (b := 0) (rest := []) (X12_isWord_ok G 1802071652 M) rfl (by decide) dX12_isFull_4 lkm_X12_281 cal_X12_isWord cM_0 rfl rfl (Nat.le_of_ble_eq_true rfl) rfl) ?_
  refine r_ifz_eq (tgt := 29) dX12_isFull_7 rfl (fun h1 => ?_) (fun h1 => ?_)
  · refine r_aload_n dX12_isFull_10 rfl ?_
    refine r_getf (v := .ref (G.2.2.2 (3))) dX12_isFull_11 fM_0_11 kX12 (by decide) lkf_X12_20 rfl ?_
    refine r_aload_n dX12_isFull_14 rfl ?_
    refine r_getf (v := .int (M.1 0 42)) dX12_isFull_15 fM_0_42 kX12 (by decide) lkf_X12_292 rfl ?_
    refine r_gd rfl (fun g18 => ?_)
    refine r_iald dX12_isFull_18 aM_3 (inb_in g18) rfl ?_
    refine r_iconst (x := 3) dX12_isFull_19 rfl ?_
    refine r_icmp_ne (tgt := 27) dX12_isFull_20 rfl (fun h19 => ?_) (fun h19 => ?_)
    · refine r_iconst (x := 1) dX12_isFull_23 rfl ?_
      refine r_goto (tgt := 28) dX12_isFull_24 rfl ?_
      exact r_iret (ty := .boolean) dX12_isFull_28 rfl rfl rfl
    refine r_iconst (x := 0) dX12_isFull_27 rfl ?_
    exact r_iret (ty := .boolean) dX12_isFull_28 rfl rfl rfl
  refine r_aload_n dX12_isFull_29 rfl ?_
  refine r_ldc2 (x := 7168366) dX12_isFull_30 lkc_X12_193 ?_
  refine c_Z (inv_V (mi := mi_X12_isFull) (b := 0) (rest := []) (X12_isWord_ok G 7168366 M) rfl (by decide) dX12_isFull_33 lkm_X12_281 cal_X12_isWord cM_0 rfl rfl (Nat.le_of_ble_eq_true rfl) rfl) ?_
  refine r_ifz_eq (tgt := 58) dX12_isFull_36 rfl (fun h2 => ?_) (fun h2 => ?_)
  · refine r_aload_n dX12_isFull_39 rfl ?_
    refine r_getf (v := .ref (G.2.2.2 (4))) dX12_isFull_40 fM_0_12 kX12 (by decide) lkf_X12_24 rfl ?_
    refine r_aload_n dX12_isFull_43 rfl ?_
    refine r_getf (v := .int (M.1 0 42)) dX12_isFull_44 fM_0_42 kX12 (by decide) lkf_X12_292 rfl ?_
    refine r_gd rfl (fun g16 => ?_)
    refine r_iald dX12_isFull_47 aM_4 (inb_in g16) rfl ?_
    refine r_iconst (x := 5) dX12_isFull_48 rfl ?_
    refine r_icmp_ne (tgt := 56) dX12_isFull_49 rfl (fun h17 => ?_) (fun h17 => ?_)
    · refine r_iconst (x := 1) dX12_isFull_52 rfl ?_
      refine r_goto (tgt := 57) dX12_isFull_53 rfl ?_
      exact r_iret (ty := .boolean) dX12_isFull_57 rfl rfl rfl
    refine r_iconst (x := 0) dX12_isFull_56 rfl ?_
    exact r_iret (ty := .boolean) dX12_isFull_57 rfl rfl rfl
  refine r_aload_n dX12_isFull_58 rfl ?_
  refine r_ldc2 (x := 1651470187) dX12_isFull_59 lkc_X12_209 ?_
  refine c_Z (inv_V (mi := mi_X12_isFull) (b := 0) (rest := []) (X12_isWord_ok G 1651470187 M) rfl (by decide) dX12_isFull_62 lkm_X12_281 cal_X12_isWord cM_0 rfl rfl (Nat.le_of_ble_eq_true rfl) rfl) ?_
  refine r_ifz_eq (tgt := 87) dX12_isFull_65 rfl (fun h3 => ?_) (fun h3 => ?_)
  · refine r_aload_n dX12_isFull_68 rfl ?_
    refine r_getf (v := .ref (G.2.2.2 (5))) dX12_isFull_69 fM_0_13 kX12 (by decide) lkf_X12_27 rfl ?_
    refine r_aload_n dX12_isFull_72 rfl ?_
    refine r_getf (v := .int (M.1 0 42)) dX12_isFull_73 fM_0_42 kX12 (by decide) lkf_X12_292 rfl ?_
    refine r_gd rfl (fun g14 => ?_)
    refine r_iald dX12_isFull_76 aM_5 (inb_in g14) rfl ?_
    refine r_iconst (x := 5) dX12_isFull_77 rfl ?_
    refine r_icmp_ne (tgt := 85) dX12_isFull_78 rfl (fun h15 => ?_) (fun h15 => ?_)
    · refine r_iconst (x := 1) dX12_isFull_81 rfl ?_
      refine r_goto (tgt := 86) dX12_isFull_82 rfl ?_
      exact r_iret (ty := .boolean) dX12_isFull_86 rfl rfl rfl
    refine r_iconst (x := 0) dX12_isFull_85 rfl ?_
    exact r_iret (ty := .boolean) dX12_isFull_86 rfl rfl rfl
  refine r_aload_n dX12_isFull_87 rfl ?_
  refine r_ldc2 (x := 1735552887) dX12_isFull_88 lkc_X12_211 ?_
  refine c_Z (inv_V (mi := mi_X12_isFull) (b := 0) (rest := []) (X12_isWord_ok G 1735552887 M) rfl (by decide) dX12_isFull_91 lkm_X12_281 cal_X12_isWord cM_0 rfl rfl (Nat.le_of_ble_eq_true rfl) rfl) ?_
  refine r_ifz_eq (tgt := 107) dX12_isFull_94 rfl (fun h4 => ?_) (fun h4 => ?_)
  · refine r_aload_n dX12_isFull_97 rfl ?_
    refine r_getf (v := .ref (G.2.2.2 (23))) dX12_isFull_98 fM_0_31 kX12 (by decide) lkf_X12_81 rfl ?_
    refine r_aload_n dX12_isFull_101 rfl ?_
    refine r_getf (v := .int (M.1 0 42)) dX12_isFull_102 fM_0_42 kX12 (by decide) lkf_X12_292 rfl ?_
    refine r_gd rfl (fun g13 => ?_)
    refine r_zald dX12_isFull_105 aM_23 (inb_in g13) rfl ?_
    refine r_gd rfl (fun gz => ?_)
    exact r_zretI dX12_isFull_106 rfl gz rfl
  refine r_aload_n dX12_isFull_107 rfl ?_
  refine r_ldc2 (x := 448546566771) dX12_isFull_108 lkc_X12_213 ?_
  refine c_Z (inv_V (mi := mi_X12_isFull) (b := 0) (rest := []) (X12_isWord_ok G 448546566771 M) rfl (by decide) dX12_isFull_111 lkm_X12_281 cal_X12_isWord cM_0 rfl rfl (Nat.le_of_ble_eq_true rfl) rfl) ?_
  refine r_ifz_eq (tgt := 127) dX12_isFull_114 rfl (fun h5 => ?_) (fun h5 => ?_)
  · refine r_aload_n dX12_isFull_117 rfl ?_
    refine r_getf (v := .ref (G.2.2.2 (24))) dX12_isFull_118 fM_0_32 kX12 (by decide) lkf_X12_85 rfl ?_
    refine r_aload_n dX12_isFull_121 rfl ?_
    refine r_getf (v := .int (M.1 0 42)) dX12_isFull_122 fM_0_42 kX12 (by decide) lkf_X12_292 rfl ?_
    refine r_gd rfl (fun g12 => ?_)
    refine r_zald dX12_isFull_125 aM_24 (inb_in g12) rfl ?_
    refine r_gd rfl (fun gz => ?_)
    exact r_zretI dX12_isFull_126 rfl gz rfl
  refine r_aload_n dX12_isFull_127 rfl ?_
  refine r_ldc2 (x := 1685217655) dX12_isFull_128 lkc_X12_215 ?_
  refine c_Z (inv_V (mi := mi_X12_isFull) (b := 0) (rest := []) (X12_isWord_ok G 1685217655 M) rfl (by decide) dX12_isFull_131 lkm_X12_281 cal_X12_isWord cM_0 rfl rfl (Nat.le_of_ble_eq_true rfl) rfl) ?_
  refine r_ifz_eq (tgt := 147) dX12_isFull_134 rfl (fun h6 => ?_) (fun h6 => ?_)
  · refine r_aload_n dX12_isFull_137 rfl ?_
    refine r_getf (v := .ref (G.2.2.2 (25))) dX12_isFull_138 fM_0_33 kX12 (by decide) lkf_X12_88 rfl ?_
    refine r_aload_n dX12_isFull_141 rfl ?_
    refine r_getf (v := .int (M.1 0 42)) dX12_isFull_142 fM_0_42 kX12 (by decide) lkf_X12_292 rfl ?_
    refine r_gd rfl (fun g11 => ?_)
    refine r_zald dX12_isFull_145 aM_25 (inb_in g11) rfl ?_
    refine r_gd rfl (fun gz => ?_)
    exact r_zretI dX12_isFull_146 rfl gz rfl
  refine r_aload_n dX12_isFull_147 rfl ?_
  refine r_ldc2 (x := 483006772069) dX12_isFull_148 lkc_X12_199 ?_
  refine c_Z (inv_V (mi := mi_X12_isFull) (b := 0) (rest := []) (X12_isWord_ok G 483006772069 M) rfl (by decide) dX12_isFull_151 lkm_X12_281 cal_X12_isWord cM_0 rfl rfl (Nat.le_of_ble_eq_true rfl) rfl) ?_
  refine r_ifz_ne (tgt := 191) dX12_isFull_154 rfl (fun h7 => ?_) (fun h7 => ?_)
  · refine r_iconst (x := 0) dX12_isFull_191 rfl ?_
    exact r_iret (ty := .boolean) dX12_isFull_192 rfl rfl rfl
  refine r_aload_n dX12_isFull_157 rfl ?_
  refine r_ldc2 (x := 7364985) dX12_isFull_158 lkc_X12_201 ?_
  refine c_Z (inv_V (mi := mi_X12_isFull) (b := 0) (rest := []) (X12_isWord_ok G 7364985 M) rfl (by decide) dX12_isFull_161 lkm_X12_281 cal_X12_isWord cM_0 rfl rfl (Nat.le_of_ble_eq_true rfl) rfl) ?_
  refine r_ifz_ne (tgt := 191) dX12_isFull_164 rfl (fun h8 => ?_) (fun h8 => ?_)
  · refine r_iconst (x := 0) dX12_isFull_191 rfl ?_
    exact r_iret (ty := .boolean) dX12_isFull_192 rfl rfl rfl
  refine r_aload_n dX12_isFull_167 rfl ?_
  refine r_ldc2 (x := 448377677669) dX12_isFull_168 lkc_X12_203 ?_
  refine c_Z (inv_V (mi := mi_X12_isFull) (b := 0) (rest := []) (X12_isWord_ok G 448377677669 M) rfl (by decide) dX12_isFull_171 lkm_X12_281 cal_X12_isWord cM_0 rfl rfl (Nat.le_of_ble_eq_true rfl) rfl) ?_
  refine r_ifz_ne (tgt := 191) dX12_isFull_174 rfl (fun h9 => ?_) (fun h9 => ?_)
  · refine r_iconst (x := 0) dX12_isFull_191 rfl ?_
    exact r_iret (ty := .boolean) dX12_isFull_192 rfl rfl rfl
  refine r_aload_n dX12_isFull_177 rfl ?_
  refine r_ldc2 (x := 1918989413) dX12_isFull_178 lkc_X12_205 ?_
  refine c_Z (inv_V (mi := mi_X12_isFull) (b := 0) (rest := []) (X12_isWord_ok G 1918989413 M) rfl (by decide) dX12_isFull_181 lkm_X12_281 cal_X12_isWord cM_0 rfl rfl (Nat.le_of_ble_eq_true rfl) rfl) ?_
  refine r_ifz_ne (tgt := 191) dX12_isFull_184 rfl (fun h10 => ?_) (fun h10 => ?_)
  · refine r_iconst (x := 0) dX12_isFull_191 rfl ?_
    exact r_iret (ty := .boolean) dX12_isFull_192 rfl rfl rfl
  refine r_iconst (x := 1) dX12_isFull_187 rfl ?_
  refine r_goto (tgt := 192) dX12_isFull_188 rfl ?_
  exact r_iret (ty := .boolean) dX12_isFull_192 rfl rfl rfl

theorem dX12_fails_0 : decode cX12_fails 0 = .ok (.aload_n 0, 1) := by decide +kernel
theorem dX12_fails_1 : decode cX12_fails 1 = .ok (.getfield 188, 3) := by decide +kernel
theorem dX12_fails_4 : decode cX12_fails 4 = .ok (.ifCond .le 4, 3) := by decide +kernel
theorem dX12_fails_7 : decode cX12_fails 7 = .ok (.return_, 1) := by decide +kernel
theorem dX12_fails_8 : decode cX12_fails 8 = .ok (.aload_n 0, 1) := by decide +kernel
theorem dX12_fails_9 : decode cX12_fails 9 = .ok (.iload_n 1, 1) := by decide +kernel
theorem dX12_fails_10 : decode cX12_fails 10 = .ok (.putfield 188, 3) := by decide +kernel
theorem dX12_fails_13 : decode cX12_fails 13 = .ok (.aload_n 0, 1) := by decide +kernel
theorem dX12_fails_14 : decode cX12_fails 14 = .ok (.iload_n 2, 1) := by decide +kernel
theorem dX12_fails_15 : decode cX12_fails 15 = .ok (.putfield 16, 3) := by decide +kernel
theorem dX12_fails_18 : decode cX12_fails 18 = .ok (.return_, 1) := by decide +kernel
abbrev mi_X12_fails : MI := (zTM, RX12, yX12_fails, cX12_fails, 3, none, 2)
theorem cal_X12_fails : zCalV mi_X12_fails 2 := ⟨⟨zTB_i7 186 (by decide +kernel), zTB_i7 185 (by decide +kernel), zTB_i0 55 (by decide +kernel), zTB_i1 13 (by decide +kernel)⟩, ⟨by decide, by decide, by decide +kernel⟩, by decide⟩
noncomputable def X12_fails (x1 : Int32) (x2 : Int32) (M : Mem) : Mem :=
  if (M.1 0 4) ≤ 0 then
    lt_ (uI M 0 4 x1) fun M2 =>
    lt_ (uI M2 0 5 x2) fun M3 =>
    M3
  else
  M
set_option maxRecDepth 100000 in
set_option maxHeartbeats 4000000 in
theorem X12_fails_ok (G : Gh) (x1 : Int32) (x2 : Int32) (M : Mem) : Mt G mi_X12_fails [.ref (G.2.2.2 (0)), .int x1, .int x2] M (dV (X12_fails x1 x2 M)) := by
  refine Mt_of (lv := [some (.ref (G.2.2.2 (0))), some (.int x1), some (.int x2)]) (by decide) rfl (Nat.le_of_ble_eq_true rfl) rfl ?_
  unfold X12_fails
  refine r_aload_n dX12_fails_0 rfl ?_
  refine r_getf (v := .int (M.1 0 4)) dX12_fails_1 fM_0_4 kX12 (by decide) lkf_X12_188 rfl ?_
  refine r_if_le (tgt := 8) dX12_fails_4 rfl (fun h1 => ?_) (fun h1 => ?_)
  · refine r_aload_n dX12_fails_8 rfl ?_
    refine r_iload_n dX12_fails_9 rfl ?_
    refine r_putI dX12_fails_10 fM_0_4 kX12 (by decide) rfl rfl lkf_X12_188 (fun _ => rfl) rfl rfl (fun M2 => ?_)
    refine r_aload_n dX12_fails_13 rfl ?_
    refine r_iload_n dX12_fails_14 rfl ?_
    refine r_putI dX12_fails_15 fM_0_5 kX12 (by decide) rfl rfl lkf_X12_16 (fun _ => rfl) rfl rfl (fun M3 => ?_)
    exact r_vret dX12_fails_18 rfl rfl
  exact r_vret dX12_fails_7 rfl rfl

theorem dX12_misplaced_0 : decode cX12_misplaced 0 = .ok (.aload_n 0, 1) := by decide +kernel
theorem dX12_misplaced_1 : decode cX12_misplaced 1 = .ok (.aload_n 0, 1) := by decide +kernel
theorem dX12_misplaced_2 : decode cX12_misplaced 2 = .ok (.getfield 243, 3) := by decide +kernel
theorem dX12_misplaced_5 : decode cX12_misplaced 5 = .ok (.iconst 1, 1) := by decide +kernel
theorem dX12_misplaced_6 : decode cX12_misplaced 6 = .ok (.if_icmp .ne 7, 3) := by decide +kernel
theorem dX12_misplaced_9 : decode cX12_misplaced 9 = .ok (.iconst 1, 1) := by decide +kernel
theorem dX12_misplaced_10 : decode cX12_misplaced 10 = .ok (.goto 4, 3) := by decide +kernel
theorem dX12_misplaced_13 : decode cX12_misplaced 13 = .ok (.iconst 2, 1) := by decide +kernel
theorem dX12_misplaced_14 : decode cX12_misplaced 14 = .ok (.aload_n 0, 1) := by decide +kernel
theorem dX12_misplaced_15 : decode cX12_misplaced 15 = .ok (.getfield 236, 3) := by decide +kernel
theorem dX12_misplaced_18 : decode cX12_misplaced 18 = .ok (.invokevirtual 267, 3) := by decide +kernel
theorem dX12_misplaced_21 : decode cX12_misplaced 21 = .ok (.return_, 1) := by decide +kernel
abbrev mi_X12_misplaced : MI := (zTM, RX12, yX12_misplaced, cX12_misplaced, 1, none, 3)
theorem cal_X12_misplaced : zCalV mi_X12_misplaced 0 := ⟨⟨zTB_i7 182 (by decide +kernel), zTB_i7 181 (by decide +kernel), zTB_i0 54 (by decide +kernel), zTB_i1 13 (by decide +kernel)⟩, ⟨by decide, by decide, by decide +kernel⟩, by decide⟩
noncomputable def X12_misplaced (M : Mem) : Mem :=
  l1_ (α := Int32) (
    if (M.1 0 8) = 1 then
      1
    else
    2) fun y2 =>
  lt_ (X12_fails y2 (M.1 0 6) M) fun M3 =>
  M3
set_option maxRecDepth 100000 in
set_option maxHeartbeats 4000000 in
theorem X12_misplaced_ok (G : Gh) (M : Mem) : Mt G mi_X12_misplaced [.ref (G.2.2.2 (0))] M (dV (X12_misplaced M)) := by
  refine Mt_of (lv := [some (.ref (G.2.2.2 (0)))]) (by decide) rfl (Nat.le_of_ble_eq_true rfl) rfl ?_
  unfold X12_misplaced
  refine r_aload_n dX12_misplaced_0 rfl ?_
  refine r_aload_n dX12_misplaced_1 rfl ?_
  refine r_getf (v := .int (M.1 0 8)) dX12_misplaced_2 fM_0_8 kX12 (by decide) lkf_X12_243 rfl ?_
  refine r_iconst (x := 1) dX12_misplaced_5 rfl ?_
  refine r_jL1 (j := 14) (lvj := fun y2 => [some (.ref (G.2.2.2 (0)))]) (stj := fun y2 => [.int y2, .ref (G.2.2.2 (0))]) (Mj := fun y2 => M) (fun y2 => ?_) (fun hj14 => ?_)
  · refine r_aload_n dX12_misplaced_14 rfl ?_
    refine r_getf (v := .int (M.1 0 6)) dX12_misplaced_15 fM_0_6 kX12 (by decide) lkf_X12_236 rfl ?_
    refine c_V (inv_V (mi := mi_X12_misplaced) (b := 0) (rest := []) (X12_fails_ok G y2 (M.1 0 6) M) rfl (by decide) dX12_misplaced_18 lkm_X12_267 cal_X12_fails cM_0 rfl rfl (Nat.le_of_ble_eq_true rfl) rfl) (fun M3 => ?_)
    exact r_vret dX12_misplaced_21 rfl rfl
  refine r_icmp_ne (tgt := 13) dX12_misplaced_6 rfl (fun h1 => ?_) (fun h1 => ?_)
  · refine r_iconst (x := 1) dX12_misplaced_9 rfl ?_
    refine r_goto (tgt := 14) dX12_misplaced_10 rfl ?_
    exact r_lk (hj14 1) (And.intro rfl True.intro)
  refine r_iconst (x := 2) dX12_misplaced_13 rfl ?_
  exact r_lk (hj14 2) (And.intro rfl True.intro)

theorem dX12_here_0 : decode cX12_here 0 = .ok (.iconst 0, 1) := by decide +kernel
theorem dX12_here_1 : decode cX12_here 1 = .ok (.istore 4, 2) := by decide +kernel
theorem dX12_here_3 : decode cX12_here 3 = .ok (.iload 4, 2) := by decide +kernel
theorem dX12_here_5 : decode cX12_here 5 = .ok (.iload_n 3, 1) := by decide +kernel
theorem dX12_here_6 : decode cX12_here 6 = .ok (.if_icmp .ge 34, 3) := by decide +kernel
theorem dX12_here_9 : decode cX12_here 9 = .ok (.aload_n 0, 1) := by decide +kernel
theorem dX12_here_10 : decode cX12_here 10 = .ok (.getfield 243, 3) := by decide +kernel
theorem dX12_here_13 : decode cX12_here 13 = .ok (.iconst 2, 1) := by decide +kernel
theorem dX12_here_14 : decode cX12_here 14 = .ok (.if_icmp .ne 20, 3) := by decide +kernel
theorem dX12_here_17 : decode cX12_here 17 = .ok (.aload_n 1, 1) := by decide +kernel
theorem dX12_here_18 : decode cX12_here 18 = .ok (.iload_n 2, 1) := by decide +kernel
theorem dX12_here_19 : decode cX12_here 19 = .ok (.iload 4, 2) := by decide +kernel
theorem dX12_here_21 : decode cX12_here 21 = .ok (.iadd, 1) := by decide +kernel
theorem dX12_here_22 : decode cX12_here 22 = .ok (.laload, 1) := by decide +kernel
theorem dX12_here_23 : decode cX12_here 23 = .ok (.aload_n 0, 1) := by decide +kernel
theorem dX12_here_24 : decode cX12_here 24 = .ok (.getfield 250, 3) := by decide +kernel
theorem dX12_here_27 : decode cX12_here 27 = .ok (.lcmp, 1) := by decide +kernel
theorem dX12_here_28 : decode cX12_here 28 = .ok (.ifCond .ne 6, 3) := by decide +kernel
theorem dX12_here_31 : decode cX12_here 31 = .ok (.iload 4, 2) := by decide +kernel
theorem dX12_here_33 : decode cX12_here 33 = .ok (.ireturn, 1) := by decide +kernel
theorem dX12_here_34 : decode cX12_here 34 = .ok (.iinc 4 1, 3) := by decide +kernel
theorem dX12_here_37 : decode cX12_here 37 = .ok (.goto (-34), 3) := by decide +kernel
theorem dX12_here_40 : decode cX12_here 40 = .ok (.iconst (-1), 1) := by decide +kernel
theorem dX12_here_41 : decode cX12_here 41 = .ok (.ireturn, 1) := by decide +kernel
abbrev mi_X12_here : MI := (zTM, RX12, yX12_here, cX12_here, 5, (some .int), 2)
theorem cal_X12_here : zCalV mi_X12_here 3 := ⟨⟨zTB_i7 194 (by decide +kernel), zTB_i7 193 (by decide +kernel), zTB_i0 57 (by decide +kernel), zTB_i1 13 (by decide +kernel)⟩, ⟨by decide, by decide, by decide +kernel⟩, by decide⟩
noncomputable def X12_here_L1 (a1 : Nat) (x2 : Int32) (x3 : Int32) (M : Mem) : Nat → Int32 → Option (Int32)
  | 0, _ => none
  | n + 1, c4 =>
    if x3 ≤ c4 then
      some (-1)
    else
    b1_ (α := Bool) (
      if (M.1 0 8) = 2 then
        gd_ (inb (x2 + c4) (zlen zTM a1) = true) (
        if (lg_cmp (M.2 a1 ((x2 + c4).toNatClampNeg)) (M.2 0 10)) = 0 then
          some false
        else
        some true)
      else
      some true) fun t5 =>
    if t5 = true then
      X12_here_L1 a1 x2 x3 M n (c4 + 1)
    else
    some c4
noncomputable def X12_here (a1 : Nat) (x2 : Int32) (x3 : Int32) (M : Mem) : Option (Int32) :=
  X12_here_L1 a1 x2 x3 M zFU 0
set_option maxRecDepth 100000 in
set_option maxHeartbeats 4000000 in
theorem X12_here_L1_ok (G : Gh) {a1 : Nat} (ha1 : zar zTM a1 = some (3, zlen zTM a1)) (x2 : Int32) (x3 : Int32) (M : Mem) : ∀ (n : Nat) (c4 : Int32), Wr G mi_X12_here (dO (dI M)) 3 [some (.ref (G.2.2.2 (0))), some (.ref (G.2.2.2 (a1))), some (.int x2), some (.int x3), some (.int c4)] [] M (X12_here_L1 a1 x2 x3 M n c4) := by
  intro n
  induction n with
  | zero => intro c4; exact r_none rfl
  | succ n ih =>
    intro c4
    rw [X12_here_L1]
    refine r_iload dX12_here_3 rfl ?_
    refine r_iload_n dX12_here_5 rfl ?_
    refine r_icmp_ge (tgt := 40) dX12_here_6 rfl (fun h1 => ?_) (fun h1 => ?_)
    · refine r_iconst (x := (-1)) dX12_here_40 rfl ?_
      exact r_iret (ty := .int) dX12_here_41 rfl rfl rfl
    refine r_aload_n dX12_here_9 rfl ?_
    refine r_getf (v := .int (M.1 0 8)) dX12_here_10 fM_0_8 kX12 (by decide) lkf_X12_243 rfl ?_
    refine r_iconst (x := 2) dX12_here_13 rfl ?_
    refine r_cB (jX := 34) (jY := 31) (lvX := [some (.ref (G.2.2.2 (0))), some (.ref (G.2.2.2 (a1))), some (.int x2), some (.int x3), some (.int c4)]) (lvY := [none, none, none, none, some (.int c4)]) (stX := []) (M1 := M) (fun h6 => ?_) (fun h6 => ?_) (fun hX34 hY31 => ?_)
    · refine r_eq (if_pos rfl) ?_
      refine r_iinc (y := c4 + 1) (lv' := [some (.ref (G.2.2.2 (0))), some (.ref (G.2.2.2 (a1))), some (.int x2), some (.int x3), some (.int (c4 + 1))]) dX12_here_34 rfl rfl (Nat.le_of_ble_eq_true rfl) rfl rfl ?_
      refine r_goto (tgt := 3) dX12_here_37 rfl ?_
      exact r_lk (ih (c4 + 1)) (And.intro rfl (And.intro rfl (And.intro rfl (And.intro rfl (And.intro rfl True.intro)))))
    · refine r_eq (if_neg (by decide)) ?_
      refine r_iload dX12_here_31 rfl ?_
      exact r_iret (ty := .int) dX12_here_33 rfl rfl rfl
    refine r_icmp_ne (tgt := 34) dX12_here_14 rfl (fun h2 => ?_) (fun h2 => ?_)
    · refine r_aload_n dX12_here_17 rfl ?_
      refine r_iload_n dX12_here_18 rfl ?_
      refine r_iload dX12_here_19 rfl ?_
      refine r_iadd dX12_here_21 ?_
      refine r_gd rfl (fun g3 => ?_)
      refine r_lald dX12_here_22 ha1 (inb_in g3) rfl ?_
      refine r_aload_n dX12_here_23 rfl ?_
      refine r_getf (v := .long (M.2 0 10)) dX12_here_24 fM_0_10 kX12 (by decide) lkf_X12_250 rfl ?_
      refine r_lcmp dX12_here_27 ?_
      refine r_if_ne (tgt := 34) dX12_here_28 rfl (fun h4 => ?_) (fun h4 => ?_)
      · exact r_lk hY31 (And.intro rfl True.intro)
      exact r_lk hX34 (And.intro rfl (And.intro rfl (And.intro rfl (And.intro rfl (And.intro rfl True.intro)))))
    exact r_lk hX34 (And.intro rfl (And.intro rfl (And.intro rfl (And.intro rfl (And.intro rfl True.intro)))))
set_option maxRecDepth 100000 in
set_option maxHeartbeats 4000000 in
theorem X12_here_ok (G : Gh) {a1 : Nat} (ha1 : zar zTM a1 = some (3, zlen zTM a1)) (x2 : Int32) (x3 : Int32) (M : Mem) : Mt G mi_X12_here [.ref (G.2.2.2 (0)), .ref (G.2.2.2 (a1)), .int x2, .int x3] M ((dO (dI M)) (X12_here a1 x2 x3 M)) := by
  refine Mt_of (lv := [some (.ref (G.2.2.2 (0))), some (.ref (G.2.2.2 (a1))), some (.int x2), some (.int x3)]) (by decide) rfl (Nat.le_of_ble_eq_true rfl) rfl ?_
  refine r_le (lv' := [some (.ref (G.2.2.2 (0))), some (.ref (G.2.2.2 (a1))), some (.int x2), some (.int x3), none]) (And.intro rfl (And.intro rfl (And.intro rfl (And.intro rfl True.intro)))) ?_
  unfold X12_here
  refine r_iconst (x := 0) dX12_here_0 rfl ?_
  refine r_istore (lv' := [some (.ref (G.2.2.2 (0))), some (.ref (G.2.2.2 (a1))), some (.int x2), some (.int x3), some (.int 0)]) dX12_here_1 (Nat.le_of_ble_eq_true rfl) rfl rfl ?_
  exact r_lk (X12_here_L1_ok G ha1 x2 x3 M zFU 0) (And.intro rfl (And.intro rfl (And.intro rfl (And.intro rfl (And.intro rfl True.intro)))))

theorem dX12_kindHere_0 : decode cX12_kindHere 0 = .ok (.aload_n 0, 1) := by decide +kernel
theorem dX12_kindHere_1 : decode cX12_kindHere 1 = .ok (.aload_n 0, 1) := by decide +kernel
theorem dX12_kindHere_2 : decode cX12_kindHere 2 = .ok (.getfield 91, 3) := by decide +kernel
theorem dX12_kindHere_5 : decode cX12_kindHere 5 = .ok (.iconst 3, 1) := by decide +kernel
theorem dX12_kindHere_6 : decode cX12_kindHere 6 = .ok (.aload_n 0, 1) := by decide +kernel
theorem dX12_kindHere_7 : decode cX12_kindHere 7 = .ok (.getfield 292, 3) := by decide +kernel
theorem dX12_kindHere_10 : decode cX12_kindHere 10 = .ok (.imul, 1) := by decide +kernel
theorem dX12_kindHere_11 : decode cX12_kindHere 11 = .ok (.aload_n 0, 1) := by decide +kernel
theorem dX12_kindHere_12 : decode cX12_kindHere 12 = .ok (.getfield 20, 3) := by decide +kernel
theorem dX12_kindHere_15 : decode cX12_kindHere 15 = .ok (.aload_n 0, 1) := by decide +kernel
theorem dX12_kindHere_16 : decode cX12_kindHere 16 = .ok (.getfield 292, 3) := by decide +kernel
theorem dX12_kindHere_19 : decode cX12_kindHere 19 = .ok (.iaload, 1) := by decide +kernel
theorem dX12_kindHere_20 : decode cX12_kindHere 20 = .ok (.invokevirtual 338, 3) := by decide +kernel
theorem dX12_kindHere_23 : decode cX12_kindHere 23 = .ok (.ireturn, 1) := by decide +kernel
abbrev mi_X12_kindHere : MI := (zTM, RX12, yX12_kindHere, cX12_kindHere, 1, (some .int), 3)
theorem cal_X12_kindHere : zCalV mi_X12_kindHere 0 := ⟨⟨zTB_i7 190 (by decide +kernel), zTB_i7 189 (by decide +kernel), zTB_i0 56 (by decide +kernel), zTB_i1 13 (by decide +kernel)⟩, ⟨by decide, by decide, by decide +kernel⟩, by decide⟩
noncomputable def X12_kindHere (M : Mem) : Option (Int32) :=
  gd_ (inb (M.1 0 42) (2) = true) (
  bo_ (X12_here 26 (3 * (M.1 0 42)) (M.1 3 ((M.1 0 42).toNatClampNeg)) M) fun v2 =>
  some v2)
set_option maxRecDepth 100000 in
set_option maxHeartbeats 4000000 in
theorem X12_kindHere_ok (G : Gh) (M : Mem) : Mt G mi_X12_kindHere [.ref (G.2.2.2 (0))] M ((dO (dI M)) (X12_kindHere M)) := by
  refine Mt_of (lv := [some (.ref (G.2.2.2 (0)))]) (by decide) rfl (Nat.le_of_ble_eq_true rfl) rfl ?_
  unfold X12_kindHere
  refine r_aload_n dX12_kindHere_0 rfl ?_
  refine r_aload_n dX12_kindHere_1 rfl ?_
  refine r_getf (v := .ref (G.2.2.2 (26))) dX12_kindHere_2 fM_0_34 kX12 (by decide) lkf_X12_91 rfl ?_
  refine r_iconst (x := 3) dX12_kindHere_5 rfl ?_
  refine r_aload_n dX12_kindHere_6 rfl ?_
  refine r_getf (v := .int (M.1 0 42)) dX12_kindHere_7 fM_0_42 kX12 (by decide) lkf_X12_292 rfl ?_
  refine r_imul dX12_kindHere_10 ?_
  refine r_aload_n dX12_kindHere_11 rfl ?_
  refine r_getf (v := .ref (G.2.2.2 (3))) dX12_kindHere_12 fM_0_11 kX12 (by decide) lkf_X12_20 rfl ?_
  refine r_aload_n dX12_kindHere_15 rfl ?_
  refine r_getf (v := .int (M.1 0 42)) dX12_kindHere_16 fM_0_42 kX12 (by decide) lkf_X12_292 rfl ?_
  refine r_gd rfl (fun g1 => ?_)
  refine r_iald dX12_kindHere_19 aM_3 (inb_in g1) rfl ?_
  refine c_OI rfl (inv_V (mi := mi_X12_kindHere) (b := 0) (rest := []) (X12_here_ok G aM_26p (3 * (M.1 0 42)) (M.1 3 ((M.1 0 42).toNatClampNeg)) M) rfl (by decide) dX12_kindHere_20 lkm_X12_338 cal_X12_here cM_0 rfl rfl (Nat.le_of_ble_eq_true rfl) rfl) (fun v2 => ?_)
  exact r_iret (ty := .int) dX12_kindHere_23 rfl rfl rfl

theorem dX12_fresh_0 : decode cX12_fresh 0 = .ok (.aload_n 0, 1) := by decide +kernel
theorem dX12_fresh_1 : decode cX12_fresh 1 = .ok (.invokevirtual 271, 3) := by decide +kernel
theorem dX12_fresh_4 : decode cX12_fresh 4 = .ok (.ifCond .ne 5, 3) := by decide +kernel
theorem dX12_fresh_7 : decode cX12_fresh 7 = .ok (.lconst 0, 1) := by decide +kernel
theorem dX12_fresh_8 : decode cX12_fresh 8 = .ok (.lreturn, 1) := by decide +kernel
theorem dX12_fresh_9 : decode cX12_fresh 9 = .ok (.aload_n 0, 1) := by decide +kernel
theorem dX12_fresh_10 : decode cX12_fresh 10 = .ok (.getfield 243, 3) := by decide +kernel
theorem dX12_fresh_13 : decode cX12_fresh 13 = .ok (.iconst 2, 1) := by decide +kernel
theorem dX12_fresh_14 : decode cX12_fresh 14 = .ok (.if_icmp .eq 10, 3) := by decide +kernel
theorem dX12_fresh_17 : decode cX12_fresh 17 = .ok (.aload_n 0, 1) := by decide +kernel
theorem dX12_fresh_18 : decode cX12_fresh 18 = .ok (.invokevirtual 278, 3) := by decide +kernel
theorem dX12_fresh_21 : decode cX12_fresh 21 = .ok (.goto 16, 3) := by decide +kernel
theorem dX12_fresh_24 : decode cX12_fresh 24 = .ok (.iload_n 1, 1) := by decide +kernel
theorem dX12_fresh_25 : decode cX12_fresh 25 = .ok (.ifCond .lt 12, 3) := by decide +kernel
theorem dX12_fresh_28 : decode cX12_fresh 28 = .ok (.aload_n 0, 1) := by decide +kernel
theorem dX12_fresh_29 : decode cX12_fresh 29 = .ok (.iconst 3, 1) := by decide +kernel
theorem dX12_fresh_30 : decode cX12_fresh 30 = .ok (.aload_n 0, 1) := by decide +kernel
theorem dX12_fresh_31 : decode cX12_fresh 31 = .ok (.getfield 236, 3) := by decide +kernel
theorem dX12_fresh_34 : decode cX12_fresh 34 = .ok (.invokevirtual 267, 3) := by decide +kernel
theorem dX12_fresh_37 : decode cX12_fresh 37 = .ok (.aload_n 0, 1) := by decide +kernel
theorem dX12_fresh_38 : decode cX12_fresh 38 = .ok (.getfield 250, 3) := by decide +kernel
theorem dX12_fresh_41 : decode cX12_fresh 41 = .ok (.lstore_n 2, 1) := by decide +kernel
theorem dX12_fresh_42 : decode cX12_fresh 42 = .ok (.aload_n 0, 1) := by decide +kernel
theorem dX12_fresh_43 : decode cX12_fresh 43 = .ok (.invokevirtual 271, 3) := by decide +kernel
theorem dX12_fresh_46 : decode cX12_fresh 46 = .ok (.ifCond .eq 7, 3) := by decide +kernel
theorem dX12_fresh_49 : decode cX12_fresh 49 = .ok (.aload_n 0, 1) := by decide +kernel
theorem dX12_fresh_50 : decode cX12_fresh 50 = .ok (.invokevirtual 275, 3) := by decide +kernel
theorem dX12_fresh_53 : decode cX12_fresh 53 = .ok (.lload_n 2, 1) := by decide +kernel
theorem dX12_fresh_54 : decode cX12_fresh 54 = .ok (.lreturn, 1) := by decide +kernel
abbrev mi_X12_fresh : MI := (zTM, RX12, yX12_fresh, cX12_fresh, 4, (some .long), 4)
theorem cal_X12_fresh : zCalV mi_X12_fresh 1 := ⟨⟨zTB_i7 198 (by decide +kernel), zTB_i7 197 (by decide +kernel), zTB_i0 58 (by decide +kernel), zTB_i1 13 (by decide +kernel)⟩, ⟨by decide, by decide, by decide +kernel⟩, by decide⟩
noncomputable def X12_fresh (x1 : Int32) (M : Mem) : Option (Int64 × Mem) :=
  if (X12_isGood M) = true then
    l1_ (α := Mem) (
      if (M.1 0 8) = 2 then
        if x1 < 0 then
          M
        else
        lt_ (X12_fails 3 (M.1 0 6) M) fun M4 =>
        M4
      else
      lt_ (X12_misplaced M) fun M5 =>
      M5) fun M6 =>
    lt_ (α := Int64) (M6.2 0 10) fun z7 =>
    if (X12_isGood M6) = true then
      bo_ (X12_goOn M6) fun M9 =>
      some (z7, M9)
    else
    some (z7, M6)
  else
  some (0, M)
set_option maxRecDepth 100000 in
set_option maxHeartbeats 4000000 in
theorem X12_fresh_ok (G : Gh) (x1 : Int32) (M : Mem) : Mt G mi_X12_fresh [.ref (G.2.2.2 (0)), .int x1] M ((dO dLM) (X12_fresh x1 M)) := by
  refine Mt_of (lv := [some (.ref (G.2.2.2 (0))), some (.int x1)]) (by decide) rfl (Nat.le_of_ble_eq_true rfl) rfl ?_
  refine r_le (lv' := [some (.ref (G.2.2.2 (0))), some (.int x1), none, none]) (And.intro rfl (And.intro rfl True.intro)) ?_
  unfold X12_fresh
  refine r_aload_n dX12_fresh_0 rfl ?_
  refine c_Z (inv_V (mi := mi_X12_fresh) (b := 0) (rest := []) (X12_isGood_ok G M) rfl (by decide) dX12_fresh_1 lkm_X12_271 cal_X12_isGood cM_0 rfl rfl (Nat.le_of_ble_eq_true rfl) rfl) ?_
  refine r_ifz_ne (tgt := 9) dX12_fresh_4 rfl (fun h1 => ?_) (fun h1 => ?_)
  · refine r_aload_n dX12_fresh_9 rfl ?_
    refine r_getf (v := .int (M.1 0 8)) dX12_fresh_10 fM_0_8 kX12 (by decide) lkf_X12_243 rfl ?_
    refine r_iconst (x := 2) dX12_fresh_13 rfl ?_
    refine r_jL1 (j := 37) (lvj := fun M6 => [some (.ref (G.2.2.2 (0))), none, none, none]) (stj := fun M6 => []) (Mj := fun M6 => M6) (fun M6 => ?_) (fun hj37 => ?_)
    · refine r_aload_n dX12_fresh_37 rfl ?_
      refine r_getf (v := .long (M6.2 0 10)) dX12_fresh_38 fM_0_10 kX12 (by decide) lkf_X12_250 rfl ?_
      refine r_letL (fun z7 => ?_)
      refine r_lstore_n (lv' := [some (.ref (G.2.2.2 (0))), none, some (.long (z7)), none]) dX12_fresh_41 (Nat.le_of_ble_eq_true rfl) rfl rfl ?_
      refine r_aload_n dX12_fresh_42 rfl ?_
      refine c_Z (inv_V (mi := mi_X12_fresh) (b := 0) (rest := []) (X12_isGood_ok G M6) rfl (by decide) dX12_fresh_43 lkm_X12_271 cal_X12_isGood cM_0 rfl rfl (Nat.le_of_ble_eq_true rfl) rfl) ?_
      refine r_ifz_eq (tgt := 53) dX12_fresh_46 rfl (fun h8 => ?_) (fun h8 => ?_)
      · refine r_aload_n dX12_fresh_49 rfl ?_
        refine c_OV rfl (inv_V (mi := mi_X12_fresh) (b := 0) (rest := []) (X12_goOn_ok G M6) rfl (by decide) dX12_fresh_50 lkm_X12_275 cal_X12_goOn cM_0 rfl rfl (Nat.le_of_ble_eq_true rfl) rfl) (fun M9 => ?_)
        refine r_lload_n dX12_fresh_53 rfl ?_
        exact r_lret dX12_fresh_54 rfl rfl
      refine r_lload_n dX12_fresh_53 rfl ?_
      exact r_lret dX12_fresh_54 rfl rfl
    refine r_icmp_eq (tgt := 24) dX12_fresh_14 rfl (fun h2 => ?_) (fun h2 => ?_)
    · refine r_iload_n dX12_fresh_24 rfl ?_
      refine r_if_lt (tgt := 37) dX12_fresh_25 rfl (fun h3 => ?_) (fun h3 => ?_)
      · exact r_lk (hj37 M) (And.intro rfl True.intro)
      refine r_aload_n dX12_fresh_28 rfl ?_
      refine r_iconst (x := 3) dX12_fresh_29 rfl ?_
      refine r_aload_n dX12_fresh_30 rfl ?_
      refine r_getf (v := .int (M.1 0 6)) dX12_fresh_31 fM_0_6 kX12 (by decide) lkf_X12_236 rfl ?_
      refine c_V (inv_V (mi := mi_X12_fresh) (b := 0) (rest := []) (X12_fails_ok G 3 (M.1 0 6) M) rfl (by decide) dX12_fresh_34 lkm_X12_267 cal_X12_fails cM_0 rfl rfl (Nat.le_of_ble_eq_true rfl) rfl) (fun M4 => ?_)
      exact r_lk (hj37 M4) (And.intro rfl True.intro)
    refine r_aload_n dX12_fresh_17 rfl ?_
    refine c_V (inv_V (mi := mi_X12_fresh) (b := 0) (rest := []) (X12_misplaced_ok G M) rfl (by decide) dX12_fresh_18 lkm_X12_278 cal_X12_misplaced cM_0 rfl rfl (Nat.le_of_ble_eq_true rfl) rfl) (fun M5 => ?_)
    refine r_goto (tgt := 37) dX12_fresh_21 rfl ?_
    exact r_lk (hj37 M5) (And.intro rfl True.intro)
  refine r_lconst (x := 0) dX12_fresh_7 rfl ?_
  exact r_lret dX12_fresh_8 rfl rfl

theorem dX12_manHere_0 : decode cX12_manHere 0 = .ok (.aload_n 0, 1) := by decide +kernel
theorem dX12_manHere_1 : decode cX12_manHere 1 = .ok (.aload_n 0, 1) := by decide +kernel
theorem dX12_manHere_2 : decode cX12_manHere 2 = .ok (.getfield 95, 3) := by decide +kernel
theorem dX12_manHere_5 : decode cX12_manHere 5 = .ok (.iconst 5, 1) := by decide +kernel
theorem dX12_manHere_6 : decode cX12_manHere 6 = .ok (.aload_n 0, 1) := by decide +kernel
theorem dX12_manHere_7 : decode cX12_manHere 7 = .ok (.getfield 292, 3) := by decide +kernel
theorem dX12_manHere_10 : decode cX12_manHere 10 = .ok (.imul, 1) := by decide +kernel
theorem dX12_manHere_11 : decode cX12_manHere 11 = .ok (.aload_n 0, 1) := by decide +kernel
theorem dX12_manHere_12 : decode cX12_manHere 12 = .ok (.getfield 24, 3) := by decide +kernel
theorem dX12_manHere_15 : decode cX12_manHere 15 = .ok (.aload_n 0, 1) := by decide +kernel
theorem dX12_manHere_16 : decode cX12_manHere 16 = .ok (.getfield 292, 3) := by decide +kernel
theorem dX12_manHere_19 : decode cX12_manHere 19 = .ok (.iaload, 1) := by decide +kernel
theorem dX12_manHere_20 : decode cX12_manHere 20 = .ok (.invokevirtual 338, 3) := by decide +kernel
theorem dX12_manHere_23 : decode cX12_manHere 23 = .ok (.ireturn, 1) := by decide +kernel
abbrev mi_X12_manHere : MI := (zTM, RX12, yX12_manHere, cX12_manHere, 1, (some .int), 3)
theorem cal_X12_manHere : zCalV mi_X12_manHere 0 := ⟨⟨zTB_i7 206 (by decide +kernel), zTB_i7 205 (by decide +kernel), zTB_i0 60 (by decide +kernel), zTB_i1 13 (by decide +kernel)⟩, ⟨by decide, by decide, by decide +kernel⟩, by decide⟩
noncomputable def X12_manHere (M : Mem) : Option (Int32) :=
  gd_ (inb (M.1 0 42) (2) = true) (
  bo_ (X12_here 27 (5 * (M.1 0 42)) (M.1 4 ((M.1 0 42).toNatClampNeg)) M) fun v2 =>
  some v2)
set_option maxRecDepth 100000 in
set_option maxHeartbeats 4000000 in
theorem X12_manHere_ok (G : Gh) (M : Mem) : Mt G mi_X12_manHere [.ref (G.2.2.2 (0))] M ((dO (dI M)) (X12_manHere M)) := by
  refine Mt_of (lv := [some (.ref (G.2.2.2 (0)))]) (by decide) rfl (Nat.le_of_ble_eq_true rfl) rfl ?_
  unfold X12_manHere
  refine r_aload_n dX12_manHere_0 rfl ?_
  refine r_aload_n dX12_manHere_1 rfl ?_
  refine r_getf (v := .ref (G.2.2.2 (27))) dX12_manHere_2 fM_0_35 kX12 (by decide) lkf_X12_95 rfl ?_
  refine r_iconst (x := 5) dX12_manHere_5 rfl ?_
  refine r_aload_n dX12_manHere_6 rfl ?_
  refine r_getf (v := .int (M.1 0 42)) dX12_manHere_7 fM_0_42 kX12 (by decide) lkf_X12_292 rfl ?_
  refine r_imul dX12_manHere_10 ?_
  refine r_aload_n dX12_manHere_11 rfl ?_
  refine r_getf (v := .ref (G.2.2.2 (4))) dX12_manHere_12 fM_0_12 kX12 (by decide) lkf_X12_24 rfl ?_
  refine r_aload_n dX12_manHere_15 rfl ?_
  refine r_getf (v := .int (M.1 0 42)) dX12_manHere_16 fM_0_42 kX12 (by decide) lkf_X12_292 rfl ?_
  refine r_gd rfl (fun g1 => ?_)
  refine r_iald dX12_manHere_19 aM_4 (inb_in g1) rfl ?_
  refine c_OI rfl (inv_V (mi := mi_X12_manHere) (b := 0) (rest := []) (X12_here_ok G aM_27p (5 * (M.1 0 42)) (M.1 4 ((M.1 0 42).toNatClampNeg)) M) rfl (by decide) dX12_manHere_20 lkm_X12_338 cal_X12_here cM_0 rfl rfl (Nat.le_of_ble_eq_true rfl) rfl) (fun v2 => ?_)
  exact r_iret (ty := .int) dX12_manHere_23 rfl rfl rfl

theorem dX12_must_0 : decode cX12_must 0 = .ok (.aload_n 0, 1) := by decide +kernel
theorem dX12_must_1 : decode cX12_must 1 = .ok (.invokevirtual 271, 3) := by decide +kernel
theorem dX12_must_4 : decode cX12_must 4 = .ok (.ifCond .ne 4, 3) := by decide +kernel
theorem dX12_must_7 : decode cX12_must 7 = .ok (.return_, 1) := by decide +kernel
theorem dX12_must_8 : decode cX12_must 8 = .ok (.iload_n 1, 1) := by decide +kernel
theorem dX12_must_9 : decode cX12_must 9 = .ok (.ifCond .eq 10, 3) := by decide +kernel
theorem dX12_must_12 : decode cX12_must 12 = .ok (.aload_n 0, 1) := by decide +kernel
theorem dX12_must_13 : decode cX12_must 13 = .ok (.invokevirtual 275, 3) := by decide +kernel
theorem dX12_must_16 : decode cX12_must 16 = .ok (.goto 7, 3) := by decide +kernel
theorem dX12_must_19 : decode cX12_must 19 = .ok (.aload_n 0, 1) := by decide +kernel
theorem dX12_must_20 : decode cX12_must 20 = .ok (.invokevirtual 278, 3) := by decide +kernel
theorem dX12_must_23 : decode cX12_must 23 = .ok (.return_, 1) := by decide +kernel
abbrev mi_X12_must : MI := (zTM, RX12, yX12_must, cX12_must, 2, none, 4)
theorem cal_X12_must : zCalV mi_X12_must 1 := ⟨⟨zTB_i7 214 (by decide +kernel), zTB_i7 213 (by decide +kernel), zTB_i0 62 (by decide +kernel), zTB_i1 13 (by decide +kernel)⟩, ⟨by decide, by decide, by decide +kernel⟩, by decide⟩
noncomputable def X12_must (x1 : Int32) (M : Mem) : Option (Mem) :=
  if (X12_isGood M) = true then
    if x1 = 0 then
      lt_ (X12_misplaced M) fun M3 =>
      some M3
    else
    bo_ (X12_goOn M) fun M4 =>
    some M4
  else
  some M
set_option maxRecDepth 100000 in
set_option maxHeartbeats 4000000 in
theorem X12_must_ok (G : Gh) (x1 : Int32) (M : Mem) : Mt G mi_X12_must [.ref (G.2.2.2 (0)), .int x1] M ((dO dV) (X12_must x1 M)) := by
  refine Mt_of (lv := [some (.ref (G.2.2.2 (0))), some (.int x1)]) (by decide) rfl (Nat.le_of_ble_eq_true rfl) rfl ?_
  unfold X12_must
  refine r_aload_n dX12_must_0 rfl ?_
  refine c_Z (inv_V (mi := mi_X12_must) (b := 0) (rest := []) (X12_isGood_ok G M) rfl (by decide) dX12_must_1 lkm_X12_271 cal_X12_isGood cM_0 rfl rfl (Nat.le_of_ble_eq_true rfl) rfl) ?_
  refine r_ifz_ne (tgt := 8) dX12_must_4 rfl (fun h1 => ?_) (fun h1 => ?_)
  · refine r_iload_n dX12_must_8 rfl ?_
    refine r_if_eq (tgt := 19) dX12_must_9 rfl (fun h2 => ?_) (fun h2 => ?_)
    · refine r_aload_n dX12_must_19 rfl ?_
      refine c_V (inv_V (mi := mi_X12_must) (b := 0) (rest := []) (X12_misplaced_ok G M) rfl (by decide) dX12_must_20 lkm_X12_278 cal_X12_misplaced cM_0 rfl rfl (Nat.le_of_ble_eq_true rfl) rfl) (fun M3 => ?_)
      exact r_vret dX12_must_23 rfl rfl
    refine r_aload_n dX12_must_12 rfl ?_
    refine c_OV rfl (inv_V (mi := mi_X12_must) (b := 0) (rest := []) (X12_goOn_ok G M) rfl (by decide) dX12_must_13 lkm_X12_275 cal_X12_goOn cM_0 rfl rfl (Nat.le_of_ble_eq_true rfl) rfl) (fun M4 => ?_)
    refine r_goto (tgt := 23) dX12_must_16 rfl ?_
    exact r_vret dX12_must_23 rfl rfl
  exact r_vret dX12_must_7 rfl rfl

theorem dX12_numeral_0 : decode cX12_numeral 0 = .ok (.aload_n 0, 1) := by decide +kernel
theorem dX12_numeral_1 : decode cX12_numeral 1 = .ok (.invokevirtual 271, 3) := by decide +kernel
theorem dX12_numeral_4 : decode cX12_numeral 4 = .ok (.ifCond .ne 5, 3) := by decide +kernel
theorem dX12_numeral_7 : decode cX12_numeral 7 = .ok (.iload_n 1, 1) := by decide +kernel
theorem dX12_numeral_8 : decode cX12_numeral 8 = .ok (.ireturn, 1) := by decide +kernel
theorem dX12_numeral_9 : decode cX12_numeral 9 = .ok (.aload_n 0, 1) := by decide +kernel
theorem dX12_numeral_10 : decode cX12_numeral 10 = .ok (.getfield 243, 3) := by decide +kernel
theorem dX12_numeral_13 : decode cX12_numeral 13 = .ok (.iconst 4, 1) := by decide +kernel
theorem dX12_numeral_14 : decode cX12_numeral 14 = .ok (.if_icmp .eq 7, 3) := by decide +kernel
theorem dX12_numeral_17 : decode cX12_numeral 17 = .ok (.aload_n 0, 1) := by decide +kernel
theorem dX12_numeral_18 : decode cX12_numeral 18 = .ok (.invokevirtual 278, 3) := by decide +kernel
theorem dX12_numeral_21 : decode cX12_numeral 21 = .ok (.aload_n 0, 1) := by decide +kernel
theorem dX12_numeral_22 : decode cX12_numeral 22 = .ok (.invokevirtual 271, 3) := by decide +kernel
theorem dX12_numeral_25 : decode cX12_numeral 25 = .ok (.ifCond .eq 28, 3) := by decide +kernel
theorem dX12_numeral_28 : decode cX12_numeral 28 = .ok (.aload_n 0, 1) := by decide +kernel
theorem dX12_numeral_29 : decode cX12_numeral 29 = .ok (.getfield 261, 3) := by decide +kernel
theorem dX12_numeral_32 : decode cX12_numeral 32 = .ok (.iload_n 1, 1) := by decide +kernel
theorem dX12_numeral_33 : decode cX12_numeral 33 = .ok (.if_icmp .lt 11, 3) := by decide +kernel
theorem dX12_numeral_36 : decode cX12_numeral 36 = .ok (.aload_n 0, 1) := by decide +kernel
theorem dX12_numeral_37 : decode cX12_numeral 37 = .ok (.getfield 261, 3) := by decide +kernel
theorem dX12_numeral_40 : decode cX12_numeral 40 = .ok (.iload_n 2, 1) := by decide +kernel
theorem dX12_numeral_41 : decode cX12_numeral 41 = .ok (.if_icmp .le 12, 3) := by decide +kernel
theorem dX12_numeral_44 : decode cX12_numeral 44 = .ok (.aload_n 0, 1) := by decide +kernel
theorem dX12_numeral_45 : decode cX12_numeral 45 = .ok (.iconst 4, 1) := by decide +kernel
theorem dX12_numeral_46 : decode cX12_numeral 46 = .ok (.aload_n 0, 1) := by decide +kernel
theorem dX12_numeral_47 : decode cX12_numeral 47 = .ok (.getfield 236, 3) := by decide +kernel
theorem dX12_numeral_50 : decode cX12_numeral 50 = .ok (.invokevirtual 267, 3) := by decide +kernel
theorem dX12_numeral_53 : decode cX12_numeral 53 = .ok (.aload_n 0, 1) := by decide +kernel
theorem dX12_numeral_54 : decode cX12_numeral 54 = .ok (.getfield 261, 3) := by decide +kernel
theorem dX12_numeral_57 : decode cX12_numeral 57 = .ok (.istore_n 3, 1) := by decide +kernel
theorem dX12_numeral_58 : decode cX12_numeral 58 = .ok (.aload_n 0, 1) := by decide +kernel
theorem dX12_numeral_59 : decode cX12_numeral 59 = .ok (.invokevirtual 271, 3) := by decide +kernel
theorem dX12_numeral_62 : decode cX12_numeral 62 = .ok (.ifCond .eq 7, 3) := by decide +kernel
theorem dX12_numeral_65 : decode cX12_numeral 65 = .ok (.aload_n 0, 1) := by decide +kernel
theorem dX12_numeral_66 : decode cX12_numeral 66 = .ok (.invokevirtual 275, 3) := by decide +kernel
theorem dX12_numeral_69 : decode cX12_numeral 69 = .ok (.aload_n 0, 1) := by decide +kernel
theorem dX12_numeral_70 : decode cX12_numeral 70 = .ok (.invokevirtual 271, 3) := by decide +kernel
theorem dX12_numeral_73 : decode cX12_numeral 73 = .ok (.ifCond .eq 7, 3) := by decide +kernel
theorem dX12_numeral_76 : decode cX12_numeral 76 = .ok (.iload_n 3, 1) := by decide +kernel
theorem dX12_numeral_77 : decode cX12_numeral 77 = .ok (.goto 4, 3) := by decide +kernel
theorem dX12_numeral_80 : decode cX12_numeral 80 = .ok (.iload_n 1, 1) := by decide +kernel
theorem dX12_numeral_81 : decode cX12_numeral 81 = .ok (.ireturn, 1) := by decide +kernel
abbrev mi_X12_numeral : MI := (zTM, RX12, yX12_numeral, cX12_numeral, 4, (some .int), 4)
theorem cal_X12_numeral : zCalV mi_X12_numeral 2 := ⟨⟨zTB_i7 218 (by decide +kernel), zTB_i7 217 (by decide +kernel), zTB_i0 63 (by decide +kernel), zTB_i1 13 (by decide +kernel)⟩, ⟨by decide, by decide, by decide +kernel⟩, by decide⟩
noncomputable def X12_numeral (x1 : Int32) (x2 : Int32) (M : Mem) : Option (Int32 × Mem) :=
  if (X12_isGood M) = true then
    l1_ (α := Mem) (
      if (M.1 0 8) = 4 then
        M
      else
      lt_ (X12_misplaced M) fun M3 =>
      M3) fun M4 =>
    l1_ (α := Mem) (
      l1_ (α := Bool) (
        if (X12_isGood M4) = true then
          if (M4.1 0 9) < x1 then
            true
          else
          if (M4.1 0 9) ≤ x2 then
            false
          else
          true
        else
        false) fun t8 =>
      if t8 = true then
        lt_ (X12_fails 4 (M4.1 0 6) M4) fun M10 =>
        M10
      else
      M4) fun M11 =>
    lt_ (α := Int32) (M11.1 0 9) fun y12 =>
    b1_ (α := Mem) (
      if (X12_isGood M11) = true then
        bo_ (X12_goOn M11) fun M14 =>
        some M14
      else
      some M11) fun M15 =>
    if (X12_isGood M15) = true then
      some (y12, M15)
    else
    some (x1, M15)
  else
  some (x1, M)
set_option maxRecDepth 100000 in
set_option maxHeartbeats 4000000 in
theorem X12_numeral_ok (G : Gh) (x1 : Int32) (x2 : Int32) (M : Mem) : Mt G mi_X12_numeral [.ref (G.2.2.2 (0)), .int x1, .int x2] M ((dO dIM) (X12_numeral x1 x2 M)) := by
  refine Mt_of (lv := [some (.ref (G.2.2.2 (0))), some (.int x1), some (.int x2)]) (by decide) rfl (Nat.le_of_ble_eq_true rfl) rfl ?_
  refine r_le (lv' := [some (.ref (G.2.2.2 (0))), some (.int x1), some (.int x2), none]) (And.intro rfl (And.intro rfl (And.intro rfl True.intro))) ?_
  unfold X12_numeral
  refine r_aload_n dX12_numeral_0 rfl ?_
  refine c_Z (inv_V (mi := mi_X12_numeral) (b := 0) (rest := []) (X12_isGood_ok G M) rfl (by decide) dX12_numeral_1 lkm_X12_271 cal_X12_isGood cM_0 rfl rfl (Nat.le_of_ble_eq_true rfl) rfl) ?_
  refine r_ifz_ne (tgt := 9) dX12_numeral_4 rfl (fun h1 => ?_) (fun h1 => ?_)
  · refine r_aload_n dX12_numeral_9 rfl ?_
    refine r_getf (v := .int (M.1 0 8)) dX12_numeral_10 fM_0_8 kX12 (by decide) lkf_X12_243 rfl ?_
    refine r_iconst (x := 4) dX12_numeral_13 rfl ?_
    refine r_jL1 (j := 21) (lvj := fun M4 => [some (.ref (G.2.2.2 (0))), some (.int x1), some (.int x2), none]) (stj := fun M4 => []) (Mj := fun M4 => M4) (fun M4 => ?_) (fun hj21 => ?_)
    · refine r_aload_n dX12_numeral_21 rfl ?_
      refine c_Z (inv_V (mi := mi_X12_numeral) (b := 0) (rest := []) (X12_isGood_ok G M4) rfl (by decide) dX12_numeral_22 lkm_X12_271 cal_X12_isGood cM_0 rfl rfl (Nat.le_of_ble_eq_true rfl) rfl) ?_
      refine r_jL1 (j := 53) (lvj := fun M11 => [some (.ref (G.2.2.2 (0))), some (.int x1), none, none]) (stj := fun M11 => []) (Mj := fun M11 => M11) (fun M11 => ?_) (fun hj53 => ?_)
      · refine r_aload_n dX12_numeral_53 rfl ?_
        refine r_getf (v := .int (M11.1 0 9)) dX12_numeral_54 fM_0_9 kX12 (by decide) lkf_X12_261 rfl ?_
        refine r_letI (fun y12 => ?_)
        refine r_istore_n (lv' := [some (.ref (G.2.2.2 (0))), some (.int x1), none, some (.int y12)]) dX12_numeral_57 (Nat.le_of_ble_eq_true rfl) rfl rfl ?_
        refine r_aload_n dX12_numeral_58 rfl ?_
        refine c_Z (inv_V (mi := mi_X12_numeral) (b := 0) (rest := []) (X12_isGood_ok G M11) rfl (by decide) dX12_numeral_59 lkm_X12_271 cal_X12_isGood cM_0 rfl rfl (Nat.le_of_ble_eq_true rfl) rfl) ?_
        refine r_jB1 (j := 69) (lvj := fun M15 => [some (.ref (G.2.2.2 (0))), some (.int x1), none, some (.int y12)]) (stj := fun M15 => []) (Mj := fun M15 => M15) (fun M15 => ?_) (fun hj69 => ?_)
        · refine r_aload_n dX12_numeral_69 rfl ?_
          refine c_Z (inv_V (mi := mi_X12_numeral) (b := 0) (rest := []) (X12_isGood_ok G M15) rfl (by decide) dX12_numeral_70 lkm_X12_271 cal_X12_isGood cM_0 rfl rfl (Nat.le_of_ble_eq_true rfl) rfl) ?_
          refine r_ifz_eq (tgt := 80) dX12_numeral_73 rfl (fun h16 => ?_) (fun h16 => ?_)
          · refine r_iload_n dX12_numeral_76 rfl ?_
            refine r_goto (tgt := 81) dX12_numeral_77 rfl ?_
            exact r_iret (ty := .int) dX12_numeral_81 rfl rfl rfl
          refine r_iload_n dX12_numeral_80 rfl ?_
          exact r_iret (ty := .int) dX12_numeral_81 rfl rfl rfl
        refine r_ifz_eq (tgt := 69) dX12_numeral_62 rfl (fun h13 => ?_) (fun h13 => ?_)
        · refine r_aload_n dX12_numeral_65 rfl ?_
          refine c_OV rfl (inv_V (mi := mi_X12_numeral) (b := 0) (rest := []) (X12_goOn_ok G M11) rfl (by decide) dX12_numeral_66 lkm_X12_275 cal_X12_goOn cM_0 rfl rfl (Nat.le_of_ble_eq_true rfl) rfl) (fun M14 => ?_)
          exact r_lk (hj69 M14) (And.intro rfl (And.intro rfl (And.intro rfl True.intro)))
        exact r_lk (hj69 M11) (And.intro rfl (And.intro rfl (And.intro rfl True.intro)))
      refine r_cL (jX := 44) (jY := 53) (lvX := [some (.ref (G.2.2.2 (0))), some (.int x1), none, none]) (lvY := [some (.ref (G.2.2.2 (0))), some (.int x1), none, none]) (stX := []) (M1 := M4) (fun h9 => ?_) (fun h9 => ?_) (fun hX44 hY53 => ?_)
      · refine r_eq (if_pos rfl) ?_
        refine r_aload_n dX12_numeral_44 rfl ?_
        refine r_iconst (x := 4) dX12_numeral_45 rfl ?_
        refine r_aload_n dX12_numeral_46 rfl ?_
        refine r_getf (v := .int (M4.1 0 6)) dX12_numeral_47 fM_0_6 kX12 (by decide) lkf_X12_236 rfl ?_
        refine c_V (inv_V (mi := mi_X12_numeral) (b := 0) (rest := []) (X12_fails_ok G 4 (M4.1 0 6) M4) rfl (by decide) dX12_numeral_50 lkm_X12_267 cal_X12_fails cM_0 rfl rfl (Nat.le_of_ble_eq_true rfl) rfl) (fun M10 => ?_)
        exact r_lk (hj53 M10) (And.intro rfl (And.intro rfl True.intro))
      · refine r_eq (if_neg (by decide)) ?_
        exact r_lk (hj53 M4) (And.intro rfl (And.intro rfl True.intro))
      refine r_ifz_eq (tgt := 53) dX12_numeral_25 rfl (fun h5 => ?_) (fun h5 => ?_)
      · refine r_aload_n dX12_numeral_28 rfl ?_
        refine r_getf (v := .int (M4.1 0 9)) dX12_numeral_29 fM_0_9 kX12 (by decide) lkf_X12_261 rfl ?_
        refine r_iload_n dX12_numeral_32 rfl ?_
        refine r_icmp_lt (tgt := 44) dX12_numeral_33 rfl (fun h6 => ?_) (fun h6 => ?_)
        · exact r_lk hX44 (And.intro rfl (And.intro rfl True.intro))
        refine r_aload_n dX12_numeral_36 rfl ?_
        refine r_getf (v := .int (M4.1 0 9)) dX12_numeral_37 fM_0_9 kX12 (by decide) lkf_X12_261 rfl ?_
        refine r_iload_n dX12_numeral_40 rfl ?_
        refine r_icmp_le (tgt := 53) dX12_numeral_41 rfl (fun h7 => ?_) (fun h7 => ?_)
        · exact r_lk hY53 (And.intro rfl (And.intro rfl True.intro))
        exact r_lk hX44 (And.intro rfl (And.intro rfl True.intro))
      exact r_lk hY53 (And.intro rfl (And.intro rfl True.intro))
    refine r_icmp_eq (tgt := 21) dX12_numeral_14 rfl (fun h2 => ?_) (fun h2 => ?_)
    · exact r_lk (hj21 M) (And.intro rfl (And.intro rfl (And.intro rfl True.intro)))
    refine r_aload_n dX12_numeral_17 rfl ?_
    refine c_V (inv_V (mi := mi_X12_numeral) (b := 0) (rest := []) (X12_misplaced_ok G M) rfl (by decide) dX12_numeral_18 lkm_X12_278 cal_X12_misplaced cM_0 rfl rfl (Nat.le_of_ble_eq_true rfl) rfl) (fun M3 => ?_)
    exact r_lk (hj21 M3) (And.intro rfl (And.intro rfl (And.intro rfl True.intro)))
  refine r_iload_n dX12_numeral_7 rfl ?_
  exact r_iret (ty := .int) dX12_numeral_8 rfl rfl rfl

theorem dX12_after_0 : decode cX12_after 0 = .ok (.aload_n 0, 1) := by decide +kernel
theorem dX12_after_1 : decode cX12_after 1 = .ok (.aload_n 0, 1) := by decide +kernel
theorem dX12_after_2 : decode cX12_after 2 = .ok (.lload_n 1, 1) := by decide +kernel
theorem dX12_after_3 : decode cX12_after 3 = .ok (.invokevirtual 281, 3) := by decide +kernel
theorem dX12_after_6 : decode cX12_after 6 = .ok (.invokevirtual 284, 3) := by decide +kernel
theorem dX12_after_9 : decode cX12_after 9 = .ok (.aload_n 0, 1) := by decide +kernel
theorem dX12_after_10 : decode cX12_after 10 = .ok (.iload_n 3, 1) := by decide +kernel
theorem dX12_after_11 : decode cX12_after 11 = .ok (.iload 4, 2) := by decide +kernel
theorem dX12_after_13 : decode cX12_after 13 = .ok (.invokevirtual 288, 3) := by decide +kernel
theorem dX12_after_16 : decode cX12_after 16 = .ok (.ireturn, 1) := by decide +kernel
abbrev mi_X12_after : MI := (zTM, RX12, yX12_after, cX12_after, 5, (some .int), 5)
theorem cal_X12_after : zCalV mi_X12_after 3 := ⟨⟨zTB_i7 210 (by decide +kernel), zTB_i7 209 (by decide +kernel), zTB_i0 61 (by decide +kernel), zTB_i1 13 (by decide +kernel)⟩, ⟨by decide, by decide, by decide +kernel⟩, by decide⟩
noncomputable def X12_after (x1 : Int64) (x3 : Int32) (x4 : Int32) (M : Mem) : Option (Int32 × Mem) :=
  bo_ (X12_must (b2i ((X12_isWord x1 M))) M) fun M1 =>
  bp_ (X12_numeral x3 x4 M1) fun v2 M3 =>
  some (v2, M3)
set_option maxRecDepth 100000 in
set_option maxHeartbeats 4000000 in
theorem X12_after_ok (G : Gh) (x1 : Int64) (x3 : Int32) (x4 : Int32) (M : Mem) : Mt G mi_X12_after [.ref (G.2.2.2 (0)), .long (x1), .int x3, .int x4] M ((dO dIM) (X12_after x1 x3 x4 M)) := by
  refine Mt_of (lv := [some (.ref (G.2.2.2 (0))), some (.long (x1)), none, some (.int x3), some (.int x4)]) (by decide) rfl (Nat.le_of_ble_eq_true rfl) rfl ?_
  unfold X12_after
  refine r_aload_n dX12_after_0 rfl ?_
  refine r_aload_n dX12_after_1 rfl ?_
  refine r_lload_n dX12_after_2 rfl ?_
  refine c_Z (inv_V (mi := mi_X12_after) (b := 0) (rest := [.ref (G.2.2.2 (0))]) (X12_isWord_ok G x1 M) rfl (by decide) dX12_after_3 lkm_X12_281 cal_X12_isWord cM_0 rfl rfl (Nat.le_of_ble_eq_true rfl) rfl) ?_
  refine c_OV rfl (inv_V (mi := mi_X12_after) (b := 0) (rest := []) (X12_must_ok G (b2i ((X12_isWord x1 M))) M) rfl (by decide) dX12_after_6 lkm_X12_284 cal_X12_must cM_0 rfl rfl (Nat.le_of_ble_eq_true rfl) rfl) (fun M1 => ?_)
  refine r_aload_n dX12_after_9 rfl ?_
  refine r_iload_n dX12_after_10 rfl ?_
  refine r_iload dX12_after_11 rfl ?_
  refine c_OIM rfl (inv_V (mi := mi_X12_after) (b := 0) (rest := []) (X12_numeral_ok G x3 x4 M1) rfl (by decide) dX12_after_13 lkm_X12_288 cal_X12_numeral cM_0 rfl rfl (Nat.le_of_ble_eq_true rfl) rfl) (fun v2 M3 => ?_)
  exact r_iret (ty := .int) dX12_after_16 rfl rfl rfl

theorem dX12_readMan_0 : decode cX12_readMan 0 = .ok (.iconst 5, 1) := by decide +kernel
theorem dX12_readMan_1 : decode cX12_readMan 1 = .ok (.aload_n 0, 1) := by decide +kernel
theorem dX12_readMan_2 : decode cX12_readMan 2 = .ok (.getfield 292, 3) := by decide +kernel
theorem dX12_readMan_5 : decode cX12_readMan 5 = .ok (.imul, 1) := by decide +kernel
theorem dX12_readMan_6 : decode cX12_readMan 6 = .ok (.aload_n 0, 1) := by decide +kernel
theorem dX12_readMan_7 : decode cX12_readMan 7 = .ok (.getfield 24, 3) := by decide +kernel
theorem dX12_readMan_10 : decode cX12_readMan 10 = .ok (.aload_n 0, 1) := by decide +kernel
theorem dX12_readMan_11 : decode cX12_readMan 11 = .ok (.getfield 292, 3) := by decide +kernel
theorem dX12_readMan_14 : decode cX12_readMan 14 = .ok (.iaload, 1) := by decide +kernel
theorem dX12_readMan_15 : decode cX12_readMan 15 = .ok (.iadd, 1) := by decide +kernel
theorem dX12_readMan_16 : decode cX12_readMan 16 = .ok (.istore_n 1, 1) := by decide +kernel
theorem dX12_readMan_17 : decode cX12_readMan 17 = .ok (.aload_n 0, 1) := by decide +kernel
theorem dX12_readMan_18 : decode cX12_readMan 18 = .ok (.getfield 95, 3) := by decide +kernel
theorem dX12_readMan_21 : decode cX12_readMan 21 = .ok (.iload_n 1, 1) := by decide +kernel
theorem dX12_readMan_22 : decode cX12_readMan 22 = .ok (.aload_n 0, 1) := by decide +kernel
theorem dX12_readMan_23 : decode cX12_readMan 23 = .ok (.aload_n 0, 1) := by decide +kernel
theorem dX12_readMan_24 : decode cX12_readMan 24 = .ok (.invokevirtual 342, 3) := by decide +kernel
theorem dX12_readMan_27 : decode cX12_readMan 27 = .ok (.invokevirtual 314, 3) := by decide +kernel
theorem dX12_readMan_30 : decode cX12_readMan 30 = .ok (.lastore, 1) := by decide +kernel
theorem dX12_readMan_31 : decode cX12_readMan 31 = .ok (.aload_n 0, 1) := by decide +kernel
theorem dX12_readMan_32 : decode cX12_readMan 32 = .ok (.getfield 48, 3) := by decide +kernel
theorem dX12_readMan_35 : decode cX12_readMan 35 = .ok (.iload_n 1, 1) := by decide +kernel
theorem dX12_readMan_36 : decode cX12_readMan 36 = .ok (.aload_n 0, 1) := by decide +kernel
theorem dX12_readMan_37 : decode cX12_readMan 37 = .ok (.ldc2_w 195, 3) := by decide +kernel
theorem dX12_readMan_40 : decode cX12_readMan 40 = .ok (.iconst 0, 1) := by decide +kernel
theorem dX12_readMan_41 : decode cX12_readMan 41 = .ok (.bipush 99, 2) := by decide +kernel
theorem dX12_readMan_43 : decode cX12_readMan 43 = .ok (.invokevirtual 345, 3) := by decide +kernel
theorem dX12_readMan_46 : decode cX12_readMan 46 = .ok (.iastore, 1) := by decide +kernel
theorem dX12_readMan_47 : decode cX12_readMan 47 = .ok (.aload_n 0, 1) := by decide +kernel
theorem dX12_readMan_48 : decode cX12_readMan 48 = .ok (.invokevirtual 271, 3) := by decide +kernel
theorem dX12_readMan_51 : decode cX12_readMan 51 = .ok (.ifCond .eq 40, 3) := by decide +kernel
theorem dX12_readMan_54 : decode cX12_readMan 54 = .ok (.aload_n 0, 1) := by decide +kernel
theorem dX12_readMan_55 : decode cX12_readMan 55 = .ok (.ldc2_w 197, 3) := by decide +kernel
theorem dX12_readMan_58 : decode cX12_readMan 58 = .ok (.invokevirtual 281, 3) := by decide +kernel
theorem dX12_readMan_61 : decode cX12_readMan 61 = .ok (.ifCond .eq 30, 3) := by decide +kernel
theorem dX12_readMan_64 : decode cX12_readMan 64 = .ok (.aload_n 0, 1) := by decide +kernel
theorem dX12_readMan_65 : decode cX12_readMan 65 = .ok (.getfield 42, 3) := by decide +kernel
theorem dX12_readMan_68 : decode cX12_readMan 68 = .ok (.aload_n 0, 1) := by decide +kernel
theorem dX12_readMan_69 : decode cX12_readMan 69 = .ok (.getfield 292, 3) := by decide +kernel
theorem dX12_readMan_72 : decode cX12_readMan 72 = .ok (.dup2, 1) := by decide +kernel
theorem dX12_readMan_73 : decode cX12_readMan 73 = .ok (.iaload, 1) := by decide +kernel
theorem dX12_readMan_74 : decode cX12_readMan 74 = .ok (.iconst 1, 1) := by decide +kernel
theorem dX12_readMan_75 : decode cX12_readMan 75 = .ok (.aload_n 0, 1) := by decide +kernel
theorem dX12_readMan_76 : decode cX12_readMan 76 = .ok (.getfield 24, 3) := by decide +kernel
theorem dX12_readMan_79 : decode cX12_readMan 79 = .ok (.aload_n 0, 1) := by decide +kernel
theorem dX12_readMan_80 : decode cX12_readMan 80 = .ok (.getfield 292, 3) := by decide +kernel
theorem dX12_readMan_83 : decode cX12_readMan 83 = .ok (.iaload, 1) := by decide +kernel
theorem dX12_readMan_84 : decode cX12_readMan 84 = .ok (.ishl, 1) := by decide +kernel
theorem dX12_readMan_85 : decode cX12_readMan 85 = .ok (.ior, 1) := by decide +kernel
theorem dX12_readMan_86 : decode cX12_readMan 86 = .ok (.iastore, 1) := by decide +kernel
theorem dX12_readMan_87 : decode cX12_readMan 87 = .ok (.aload_n 0, 1) := by decide +kernel
theorem dX12_readMan_88 : decode cX12_readMan 88 = .ok (.invokevirtual 275, 3) := by decide +kernel
theorem dX12_readMan_91 : decode cX12_readMan 91 = .ok (.aload_n 0, 1) := by decide +kernel
theorem dX12_readMan_92 : decode cX12_readMan 92 = .ok (.getfield 51, 3) := by decide +kernel
theorem dX12_readMan_95 : decode cX12_readMan 95 = .ok (.iload_n 1, 1) := by decide +kernel
theorem dX12_readMan_96 : decode cX12_readMan 96 = .ok (.bipush 10, 2) := by decide +kernel
theorem dX12_readMan_98 : decode cX12_readMan 98 = .ok (.iastore, 1) := by decide +kernel
theorem dX12_readMan_99 : decode cX12_readMan 99 = .ok (.aload_n 0, 1) := by decide +kernel
theorem dX12_readMan_100 : decode cX12_readMan 100 = .ok (.getfield 60, 3) := by decide +kernel
theorem dX12_readMan_103 : decode cX12_readMan 103 = .ok (.iload_n 1, 1) := by decide +kernel
theorem dX12_readMan_104 : decode cX12_readMan 104 = .ok (.iconst 0, 1) := by decide +kernel
theorem dX12_readMan_105 : decode cX12_readMan 105 = .ok (.iastore, 1) := by decide +kernel
theorem dX12_readMan_106 : decode cX12_readMan 106 = .ok (.aload_n 0, 1) := by decide +kernel
theorem dX12_readMan_107 : decode cX12_readMan 107 = .ok (.getfield 63, 3) := by decide +kernel
theorem dX12_readMan_110 : decode cX12_readMan 110 = .ok (.iload_n 1, 1) := by decide +kernel
theorem dX12_readMan_111 : decode cX12_readMan 111 = .ok (.iconst 0, 1) := by decide +kernel
theorem dX12_readMan_112 : decode cX12_readMan 112 = .ok (.iastore, 1) := by decide +kernel
theorem dX12_readMan_113 : decode cX12_readMan 113 = .ok (.iconst 0, 1) := by decide +kernel
theorem dX12_readMan_114 : decode cX12_readMan 114 = .ok (.istore_n 2, 1) := by decide +kernel
theorem dX12_readMan_115 : decode cX12_readMan 115 = .ok (.iload_n 2, 1) := by decide +kernel
theorem dX12_readMan_116 : decode cX12_readMan 116 = .ok (.iconst 3, 1) := by decide +kernel
theorem dX12_readMan_117 : decode cX12_readMan 117 = .ok (.if_icmp .ge 31, 3) := by decide +kernel
theorem dX12_readMan_120 : decode cX12_readMan 120 = .ok (.aload_n 0, 1) := by decide +kernel
theorem dX12_readMan_121 : decode cX12_readMan 121 = .ok (.getfield 54, 3) := by decide +kernel
theorem dX12_readMan_124 : decode cX12_readMan 124 = .ok (.iconst 3, 1) := by decide +kernel
theorem dX12_readMan_125 : decode cX12_readMan 125 = .ok (.iload_n 1, 1) := by decide +kernel
theorem dX12_readMan_126 : decode cX12_readMan 126 = .ok (.imul, 1) := by decide +kernel
theorem dX12_readMan_127 : decode cX12_readMan 127 = .ok (.iload_n 2, 1) := by decide +kernel
theorem dX12_readMan_128 : decode cX12_readMan 128 = .ok (.iadd, 1) := by decide +kernel
theorem dX12_readMan_129 : decode cX12_readMan 129 = .ok (.iconst 0, 1) := by decide +kernel
theorem dX12_readMan_130 : decode cX12_readMan 130 = .ok (.iastore, 1) := by decide +kernel
theorem dX12_readMan_131 : decode cX12_readMan 131 = .ok (.aload_n 0, 1) := by decide +kernel
theorem dX12_readMan_132 : decode cX12_readMan 132 = .ok (.getfield 57, 3) := by decide +kernel
theorem dX12_readMan_135 : decode cX12_readMan 135 = .ok (.iconst 3, 1) := by decide +kernel
theorem dX12_readMan_136 : decode cX12_readMan 136 = .ok (.iload_n 1, 1) := by decide +kernel
theorem dX12_readMan_137 : decode cX12_readMan 137 = .ok (.imul, 1) := by decide +kernel
theorem dX12_readMan_138 : decode cX12_readMan 138 = .ok (.iload_n 2, 1) := by decide +kernel
theorem dX12_readMan_139 : decode cX12_readMan 139 = .ok (.iadd, 1) := by decide +kernel
theorem dX12_readMan_140 : decode cX12_readMan 140 = .ok (.iconst 0, 1) := by decide +kernel
theorem dX12_readMan_141 : decode cX12_readMan 141 = .ok (.iastore, 1) := by decide +kernel
theorem dX12_readMan_142 : decode cX12_readMan 142 = .ok (.iinc 2 1, 3) := by decide +kernel
theorem dX12_readMan_145 : decode cX12_readMan 145 = .ok (.goto (-30), 3) := by decide +kernel
theorem dX12_readMan_148 : decode cX12_readMan 148 = .ok (.aload_n 0, 1) := by decide +kernel
theorem dX12_readMan_149 : decode cX12_readMan 149 = .ok (.getfield 24, 3) := by decide +kernel
theorem dX12_readMan_152 : decode cX12_readMan 152 = .ok (.aload_n 0, 1) := by decide +kernel
theorem dX12_readMan_153 : decode cX12_readMan 153 = .ok (.getfield 292, 3) := by decide +kernel
theorem dX12_readMan_156 : decode cX12_readMan 156 = .ok (.dup2, 1) := by decide +kernel
theorem dX12_readMan_157 : decode cX12_readMan 157 = .ok (.iaload, 1) := by decide +kernel
theorem dX12_readMan_158 : decode cX12_readMan 158 = .ok (.iconst 1, 1) := by decide +kernel
theorem dX12_readMan_159 : decode cX12_readMan 159 = .ok (.iadd, 1) := by decide +kernel
theorem dX12_readMan_160 : decode cX12_readMan 160 = .ok (.iastore, 1) := by decide +kernel
theorem dX12_readMan_161 : decode cX12_readMan 161 = .ok (.return_, 1) := by decide +kernel
abbrev mi_X12_readMan : MI := (zTM, RX12, yX12_readMan, cX12_readMan, 3, none, 6)
theorem cal_X12_readMan : zCalV mi_X12_readMan 0 := ⟨⟨zTB_i7 202 (by decide +kernel), zTB_i7 201 (by decide +kernel), zTB_i0 59 (by decide +kernel), zTB_i1 13 (by decide +kernel)⟩, ⟨by decide, by decide, by decide +kernel⟩, by decide⟩
noncomputable def X12_readMan_L1 (y2 : Int32) : Nat → Int32 → Mem → Option (Mem)
  | 0, _, _ => none
  | n + 1, c2, M =>
    if 3 ≤ c2 then
      some M
    else
    gd_ (inb ((3 * y2) + c2) (30) = true) (
    lt_ (uI M 14 (((3 * y2) + c2).toNatClampNeg) 0) fun M27 =>
    gd_ (inb ((3 * y2) + c2) (30) = true) (
    lt_ (uI M27 15 (((3 * y2) + c2).toNatClampNeg) 0) fun M29 =>
    X12_readMan_L1 y2 n (c2 + 1) M29))
noncomputable def X12_readMan (M : Mem) : Option (Mem) :=
  gd_ (inb (M.1 0 42) (2) = true) (
  lt_ (α := Int32) ((5 * (M.1 0 42)) + (M.1 4 ((M.1 0 42).toNatClampNeg))) fun y2 =>
  bo_ (X12_manHere M) fun v3 =>
  bp_ (X12_fresh v3 M) fun l4 M5 =>
  gd_ (inb y2 (10) = true) (
  lt_ (uL M5 27 y2.toNatClampNeg l4) fun M7 =>
  bp_ (X12_after 1668444016 0 99 M7) fun v8 M9 =>
  gd_ (inb y2 (10) = true) (
  lt_ (uI M9 12 y2.toNatClampNeg v8) fun M11 =>
  b1_ (α := Mem) (
    if (X12_isGood M11) = true then
      if (X12_isWord 465726042981 M11) = true then
        gd_ (inb (M11.1 0 42) (2) = true) (
        gd_ (inb (M11.1 0 42) (2) = true) (
        lt_ (uI M11 10 ((M11.1 0 42).toNatClampNeg) ((M11.1 10 ((M11.1 0 42).toNatClampNeg)) ||| (1 <<< ((M11.1 4 ((M11.1 0 42).toNatClampNeg)) &&& 31)))) fun M16 =>
        bo_ (X12_goOn M16) fun M17 =>
        some M17))
      else
      some M11
    else
    some M11) fun M18 =>
  gd_ (inb y2 (10) = true) (
  lt_ (uI M18 13 y2.toNatClampNeg 10) fun M20 =>
  gd_ (inb y2 (10) = true) (
  lt_ (uI M20 16 y2.toNatClampNeg 0) fun M22 =>
  gd_ (inb y2 (10) = true) (
  lt_ (uI M22 17 y2.toNatClampNeg 0) fun M24 =>
  b1_ (α := Mem) (X12_readMan_L1 y2 zFU 0 M24) fun M30 =>
  gd_ (inb (M30.1 0 42) (2) = true) (
  lt_ (uI M30 4 ((M30.1 0 42).toNatClampNeg) ((M30.1 4 ((M30.1 0 42).toNatClampNeg)) + 1)) fun M32 =>
  some M32)))))))
set_option maxRecDepth 100000 in
set_option maxHeartbeats 4000000 in
theorem X12_readMan_L1_ok (G : Gh) (y2 : Int32) {dn : Option (Mem) → Option (Option Value × Mem)} (hs : dn none = none) (hx : ∀ (M30 : Mem), Wr G mi_X12_readMan dn 148 [some (.ref (G.2.2.2 (0))), none, none] [] M30 (some M30)) : ∀ (n : Nat) (c2 : Int32) (M : Mem), Wr G mi_X12_readMan dn 115 [some (.ref (G.2.2.2 (0))), some (.int y2), some (.int c2)] [] M (X12_readMan_L1 y2 n c2 M) := by
  intro n
  induction n with
  | zero => intro c2 M; exact r_none (by exact hs)
  | succ n ih =>
    intro c2 M
    rw [X12_readMan_L1]
    refine r_iload_n dX12_readMan_115 rfl ?_
    refine r_iconst (x := 3) dX12_readMan_116 rfl ?_
    refine r_icmp_ge (tgt := 148) dX12_readMan_117 rfl (fun h25 => ?_) (fun h25 => ?_)
    · exact r_lk (hx M) (And.intro rfl True.intro)
    refine r_aload_n dX12_readMan_120 rfl ?_
    refine r_getf (v := .ref (G.2.2.2 (14))) dX12_readMan_121 fM_0_22 kX12 (by decide) lkf_X12_54 rfl ?_
    refine r_iconst (x := 3) dX12_readMan_124 rfl ?_
    refine r_iload_n dX12_readMan_125 rfl ?_
    refine r_imul dX12_readMan_126 ?_
    refine r_iload_n dX12_readMan_127 rfl ?_
    refine r_iadd dX12_readMan_128 ?_
    refine r_iconst (x := 0) dX12_readMan_129 rfl ?_
    refine r_gd (by exact hs) (fun g26 => ?_)
    refine r_iast dX12_readMan_130 aM_14 (inb_in g26) rfl (fun M27 => ?_)
    refine r_aload_n dX12_readMan_131 rfl ?_
    refine r_getf (v := .ref (G.2.2.2 (15))) dX12_readMan_132 fM_0_23 kX12 (by decide) lkf_X12_57 rfl ?_
    refine r_iconst (x := 3) dX12_readMan_135 rfl ?_
    refine r_iload_n dX12_readMan_136 rfl ?_
    refine r_imul dX12_readMan_137 ?_
    refine r_iload_n dX12_readMan_138 rfl ?_
    refine r_iadd dX12_readMan_139 ?_
    refine r_iconst (x := 0) dX12_readMan_140 rfl ?_
    refine r_gd (by exact hs) (fun g28 => ?_)
    refine r_iast dX12_readMan_141 aM_15 (inb_in g28) rfl (fun M29 => ?_)
    refine r_iinc (y := c2 + 1) (lv' := [some (.ref (G.2.2.2 (0))), some (.int y2), some (.int (c2 + 1))]) dX12_readMan_142 rfl rfl (Nat.le_of_ble_eq_true rfl) rfl rfl ?_
    refine r_goto (tgt := 115) dX12_readMan_145 rfl ?_
    exact r_lk (ih (c2 + 1) M29) (And.intro rfl (And.intro rfl (And.intro rfl True.intro)))
set_option maxRecDepth 100000 in
set_option maxHeartbeats 4000000 in
theorem X12_readMan_ok (G : Gh) (M : Mem) : Mt G mi_X12_readMan [.ref (G.2.2.2 (0))] M ((dO dV) (X12_readMan M)) := by
  refine Mt_of (lv := [some (.ref (G.2.2.2 (0)))]) (by decide) rfl (Nat.le_of_ble_eq_true rfl) rfl ?_
  refine r_le (lv' := [some (.ref (G.2.2.2 (0))), none, none]) (And.intro rfl True.intro) ?_
  unfold X12_readMan
  refine r_iconst (x := 5) dX12_readMan_0 rfl ?_
  refine r_aload_n dX12_readMan_1 rfl ?_
  refine r_getf (v := .int (M.1 0 42)) dX12_readMan_2 fM_0_42 kX12 (by decide) lkf_X12_292 rfl ?_
  refine r_imul dX12_readMan_5 ?_
  refine r_aload_n dX12_readMan_6 rfl ?_
  refine r_getf (v := .ref (G.2.2.2 (4))) dX12_readMan_7 fM_0_12 kX12 (by decide) lkf_X12_24 rfl ?_
  refine r_aload_n dX12_readMan_10 rfl ?_
  refine r_getf (v := .int (M.1 0 42)) dX12_readMan_11 fM_0_42 kX12 (by decide) lkf_X12_292 rfl ?_
  refine r_gd rfl (fun g1 => ?_)
  refine r_iald dX12_readMan_14 aM_4 (inb_in g1) rfl ?_
  refine r_iadd dX12_readMan_15 ?_
  refine r_letI (fun y2 => ?_)
  refine r_istore_n (lv' := [some (.ref (G.2.2.2 (0))), some (.int y2), none]) dX12_readMan_16 (Nat.le_of_ble_eq_true rfl) rfl rfl ?_
  refine r_aload_n dX12_readMan_17 rfl ?_
  refine r_getf (v := .ref (G.2.2.2 (27))) dX12_readMan_18 fM_0_35 kX12 (by decide) lkf_X12_95 rfl ?_
  refine r_iload_n dX12_readMan_21 rfl ?_
  refine r_aload_n dX12_readMan_22 rfl ?_
  refine r_aload_n dX12_readMan_23 rfl ?_
  refine c_OI rfl (inv_V (mi := mi_X12_readMan) (b := 0) (rest := [.ref (G.2.2.2 (0)), .int y2, .ref (G.2.2.2 (27))]) (X12_manHere_ok G M) rfl (by decide) dX12_readMan_24 lkm_X12_342 cal_X12_manHere cM_0 rfl rfl (Nat.le_of_ble_eq_true rfl) rfl) (fun v3 => ?_)
  refine c_OLM rfl (inv_V (mi := mi_X12_readMan) (b := 0) (rest := [.int y2, .ref (G.2.2.2 (27))]) (X12_fresh_ok G v3 M) rfl (by decide) dX12_readMan_27 lkm_X12_314 cal_X12_fresh cM_0 rfl rfl (Nat.le_of_ble_eq_true rfl) rfl) (fun l4 M5 => ?_)
  refine r_gd rfl (fun g6 => ?_)
  refine r_last dX12_readMan_30 aM_27 (inb_in g6) rfl (fun M7 => ?_)
  refine r_aload_n dX12_readMan_31 rfl ?_
  refine r_getf (v := .ref (G.2.2.2 (12))) dX12_readMan_32 fM_0_20 kX12 (by decide) lkf_X12_48 rfl ?_
  refine r_iload_n dX12_readMan_35 rfl ?_
  refine r_aload_n dX12_readMan_36 rfl ?_
  refine r_ldc2 (x := 1668444016) dX12_readMan_37 lkc_X12_195 ?_
  refine r_iconst (x := 0) dX12_readMan_40 rfl ?_
  refine r_bipush (x := 99) dX12_readMan_41 rfl ?_
  refine c_OIM rfl (inv_V (mi := mi_X12_readMan) (b := 0) (rest := [.int y2, .ref (G.2.2.2 (12))]) (X12_after_ok G 1668444016 0 99 M7) rfl (by decide) dX12_readMan_43 lkm_X12_345 cal_X12_after cM_0 rfl rfl (Nat.le_of_ble_eq_true rfl) rfl) (fun v8 M9 => ?_)
  refine r_gd rfl (fun g10 => ?_)
  refine r_iast dX12_readMan_46 aM_12 (inb_in g10) rfl (fun M11 => ?_)
  refine r_aload_n dX12_readMan_47 rfl ?_
  refine c_Z (inv_V (mi := mi_X12_readMan) (b := 0) (rest := []) (X12_isGood_ok G M11) rfl (by decide) dX12_readMan_48 lkm_X12_271 cal_X12_isGood cM_0 rfl rfl (Nat.le_of_ble_eq_true rfl) rfl) ?_
  refine r_jB1 (j := 91) (lvj := fun M18 => [some (.ref (G.2.2.2 (0))), some (.int y2), none]) (stj := fun M18 => []) (Mj := fun M18 => M18) (fun M18 => ?_) (fun hj91 => ?_)
  · refine r_aload_n dX12_readMan_91 rfl ?_
    refine r_getf (v := .ref (G.2.2.2 (13))) dX12_readMan_92 fM_0_21 kX12 (by decide) lkf_X12_51 rfl ?_
    refine r_iload_n dX12_readMan_95 rfl ?_
    refine r_bipush (x := 10) dX12_readMan_96 rfl ?_
    refine r_gd rfl (fun g19 => ?_)
    refine r_iast dX12_readMan_98 aM_13 (inb_in g19) rfl (fun M20 => ?_)
    refine r_aload_n dX12_readMan_99 rfl ?_
    refine r_getf (v := .ref (G.2.2.2 (16))) dX12_readMan_100 fM_0_24 kX12 (by decide) lkf_X12_60 rfl ?_
    refine r_iload_n dX12_readMan_103 rfl ?_
    refine r_iconst (x := 0) dX12_readMan_104 rfl ?_
    refine r_gd rfl (fun g21 => ?_)
    refine r_iast dX12_readMan_105 aM_16 (inb_in g21) rfl (fun M22 => ?_)
    refine r_aload_n dX12_readMan_106 rfl ?_
    refine r_getf (v := .ref (G.2.2.2 (17))) dX12_readMan_107 fM_0_25 kX12 (by decide) lkf_X12_63 rfl ?_
    refine r_iload_n dX12_readMan_110 rfl ?_
    refine r_iconst (x := 0) dX12_readMan_111 rfl ?_
    refine r_gd rfl (fun g23 => ?_)
    refine r_iast dX12_readMan_112 aM_17 (inb_in g23) rfl (fun M24 => ?_)
    refine r_iconst (x := 0) dX12_readMan_113 rfl ?_
    refine r_istore_n (lv' := [some (.ref (G.2.2.2 (0))), some (.int y2), some (.int 0)]) dX12_readMan_114 (Nat.le_of_ble_eq_true rfl) rfl rfl ?_
    refine r_jB1 (j := 148) (lvj := fun M30 => [some (.ref (G.2.2.2 (0))), none, none]) (stj := fun M30 => []) (Mj := fun M30 => M30) (fun M30 => ?_) (fun hj148 => ?_)
    · refine r_aload_n dX12_readMan_148 rfl ?_
      refine r_getf (v := .ref (G.2.2.2 (4))) dX12_readMan_149 fM_0_12 kX12 (by decide) lkf_X12_24 rfl ?_
      refine r_aload_n dX12_readMan_152 rfl ?_
      refine r_getf (v := .int (M30.1 0 42)) dX12_readMan_153 fM_0_42 kX12 (by decide) lkf_X12_292 rfl ?_
      refine r_dup2 dX12_readMan_156 rfl rfl ?_
      refine r_gd rfl (fun g31 => ?_)
      refine r_iald dX12_readMan_157 aM_4 (inb_in g31) rfl ?_
      refine r_iconst (x := 1) dX12_readMan_158 rfl ?_
      refine r_iadd dX12_readMan_159 ?_
      refine r_iast dX12_readMan_160 aM_4 (inb_in g31) rfl (fun M32 => ?_)
      exact r_vret dX12_readMan_161 rfl rfl
    exact r_lk (X12_readMan_L1_ok G y2 rfl hj148 zFU 0 M24) (And.intro rfl (And.intro rfl (And.intro rfl True.intro)))
  refine r_ifz_eq (tgt := 91) dX12_readMan_51 rfl (fun h12 => ?_) (fun h12 => ?_)
  · refine r_aload_n dX12_readMan_54 rfl ?_
    refine r_ldc2 (x := 465726042981) dX12_readMan_55 lkc_X12_197 ?_
    refine c_Z (inv_V (mi := mi_X12_readMan) (b := 0) (rest := []) (X12_isWord_ok G 465726042981 M11) rfl (by decide) dX12_readMan_58 lkm_X12_281 cal_X12_isWord cM_0 rfl rfl (Nat.le_of_ble_eq_true rfl) rfl) ?_
    refine r_ifz_eq (tgt := 91) dX12_readMan_61 rfl (fun h13 => ?_) (fun h13 => ?_)
    · refine r_aload_n dX12_readMan_64 rfl ?_
      refine r_getf (v := .ref (G.2.2.2 (10))) dX12_readMan_65 fM_0_18 kX12 (by decide) lkf_X12_42 rfl ?_
      refine r_aload_n dX12_readMan_68 rfl ?_
      refine r_getf (v := .int (M11.1 0 42)) dX12_readMan_69 fM_0_42 kX12 (by decide) lkf_X12_292 rfl ?_
      refine r_dup2 dX12_readMan_72 rfl rfl ?_
      refine r_gd rfl (fun g14 => ?_)
      refine r_iald dX12_readMan_73 aM_10 (inb_in g14) rfl ?_
      refine r_iconst (x := 1) dX12_readMan_74 rfl ?_
      refine r_aload_n dX12_readMan_75 rfl ?_
      refine r_getf (v := .ref (G.2.2.2 (4))) dX12_readMan_76 fM_0_12 kX12 (by decide) lkf_X12_24 rfl ?_
      refine r_aload_n dX12_readMan_79 rfl ?_
      refine r_getf (v := .int (M11.1 0 42)) dX12_readMan_80 fM_0_42 kX12 (by decide) lkf_X12_292 rfl ?_
      refine r_gd rfl (fun g15 => ?_)
      refine r_iald dX12_readMan_83 aM_4 (inb_in g15) rfl ?_
      refine r_ishl dX12_readMan_84 ?_
      refine r_ior dX12_readMan_85 ?_
      refine r_iast dX12_readMan_86 aM_10 (inb_in g14) rfl (fun M16 => ?_)
      refine r_aload_n dX12_readMan_87 rfl ?_
      refine c_OV rfl (inv_V (mi := mi_X12_readMan) (b := 0) (rest := []) (X12_goOn_ok G M16) rfl (by decide) dX12_readMan_88 lkm_X12_275 cal_X12_goOn cM_0 rfl rfl (Nat.le_of_ble_eq_true rfl) rfl) (fun M17 => ?_)
      exact r_lk (hj91 M17) (And.intro rfl (And.intro rfl True.intro))
    exact r_lk (hj91 M11) (And.intro rfl (And.intro rfl True.intro))
  exact r_lk (hj91 M11) (And.intro rfl (And.intro rfl True.intro))

theorem dX12_known_0 : decode cX12_known 0 = .ok (.aload_n 0, 1) := by decide +kernel
theorem dX12_known_1 : decode cX12_known 1 = .ok (.invokevirtual 271, 3) := by decide +kernel
theorem dX12_known_4 : decode cX12_known 4 = .ok (.ifCond .ne 5, 3) := by decide +kernel
theorem dX12_known_7 : decode cX12_known 7 = .ok (.iconst 0, 1) := by decide +kernel
theorem dX12_known_8 : decode cX12_known 8 = .ok (.ireturn, 1) := by decide +kernel
theorem dX12_known_9 : decode cX12_known 9 = .ok (.aload_n 0, 1) := by decide +kernel
theorem dX12_known_10 : decode cX12_known 10 = .ok (.getfield 243, 3) := by decide +kernel
theorem dX12_known_13 : decode cX12_known 13 = .ok (.iconst 2, 1) := by decide +kernel
theorem dX12_known_14 : decode cX12_known 14 = .ok (.if_icmp .eq 10, 3) := by decide +kernel
theorem dX12_known_17 : decode cX12_known 17 = .ok (.aload_n 0, 1) := by decide +kernel
theorem dX12_known_18 : decode cX12_known 18 = .ok (.invokevirtual 278, 3) := by decide +kernel
theorem dX12_known_21 : decode cX12_known 21 = .ok (.goto 23, 3) := by decide +kernel
theorem dX12_known_24 : decode cX12_known 24 = .ok (.iload_n 1, 1) := by decide +kernel
theorem dX12_known_25 : decode cX12_known 25 = .ok (.ifCond .ge 15, 3) := by decide +kernel
theorem dX12_known_28 : decode cX12_known 28 = .ok (.aload_n 0, 1) := by decide +kernel
theorem dX12_known_29 : decode cX12_known 29 = .ok (.iconst 5, 1) := by decide +kernel
theorem dX12_known_30 : decode cX12_known 30 = .ok (.aload_n 0, 1) := by decide +kernel
theorem dX12_known_31 : decode cX12_known 31 = .ok (.getfield 236, 3) := by decide +kernel
theorem dX12_known_34 : decode cX12_known 34 = .ok (.invokevirtual 267, 3) := by decide +kernel
theorem dX12_known_37 : decode cX12_known 37 = .ok (.goto 7, 3) := by decide +kernel
theorem dX12_known_40 : decode cX12_known 40 = .ok (.aload_n 0, 1) := by decide +kernel
theorem dX12_known_41 : decode cX12_known 41 = .ok (.invokevirtual 275, 3) := by decide +kernel
theorem dX12_known_44 : decode cX12_known 44 = .ok (.iload_n 1, 1) := by decide +kernel
theorem dX12_known_45 : decode cX12_known 45 = .ok (.ifCond .ge 7, 3) := by decide +kernel
theorem dX12_known_48 : decode cX12_known 48 = .ok (.iconst 0, 1) := by decide +kernel
theorem dX12_known_49 : decode cX12_known 49 = .ok (.goto 4, 3) := by decide +kernel
theorem dX12_known_52 : decode cX12_known 52 = .ok (.iload_n 1, 1) := by decide +kernel
theorem dX12_known_53 : decode cX12_known 53 = .ok (.ireturn, 1) := by decide +kernel
abbrev mi_X12_known : MI := (zTM, RX12, yX12_known, cX12_known, 2, (some .int), 4)
theorem cal_X12_known : zCalV mi_X12_known 1 := ⟨⟨zTB_i7 226 (by decide +kernel), zTB_i7 225 (by decide +kernel), zTB_i0 65 (by decide +kernel), zTB_i1 13 (by decide +kernel)⟩, ⟨by decide, by decide, by decide +kernel⟩, by decide⟩
noncomputable def X12_known (x1 : Int32) (M : Mem) : Option (Int32 × Mem) :=
  if (X12_isGood M) = true then
    b1_ (α := Mem) (
      if (M.1 0 8) = 2 then
        if 0 ≤ x1 then
          bo_ (X12_goOn M) fun M4 =>
          some M4
        else
        lt_ (X12_fails 5 (M.1 0 6) M) fun M5 =>
        some M5
      else
      lt_ (X12_misplaced M) fun M6 =>
      some M6) fun M7 =>
    if 0 ≤ x1 then
      some (x1, M7)
    else
    some (0, M7)
  else
  some (0, M)
set_option maxRecDepth 100000 in
set_option maxHeartbeats 4000000 in
theorem X12_known_ok (G : Gh) (x1 : Int32) (M : Mem) : Mt G mi_X12_known [.ref (G.2.2.2 (0)), .int x1] M ((dO dIM) (X12_known x1 M)) := by
  refine Mt_of (lv := [some (.ref (G.2.2.2 (0))), some (.int x1)]) (by decide) rfl (Nat.le_of_ble_eq_true rfl) rfl ?_
  unfold X12_known
  refine r_aload_n dX12_known_0 rfl ?_
  refine c_Z (inv_V (mi := mi_X12_known) (b := 0) (rest := []) (X12_isGood_ok G M) rfl (by decide) dX12_known_1 lkm_X12_271 cal_X12_isGood cM_0 rfl rfl (Nat.le_of_ble_eq_true rfl) rfl) ?_
  refine r_ifz_ne (tgt := 9) dX12_known_4 rfl (fun h1 => ?_) (fun h1 => ?_)
  · refine r_aload_n dX12_known_9 rfl ?_
    refine r_getf (v := .int (M.1 0 8)) dX12_known_10 fM_0_8 kX12 (by decide) lkf_X12_243 rfl ?_
    refine r_iconst (x := 2) dX12_known_13 rfl ?_
    refine r_jB1 (j := 44) (lvj := fun M7 => [none, some (.int x1)]) (stj := fun M7 => []) (Mj := fun M7 => M7) (fun M7 => ?_) (fun hj44 => ?_)
    · refine r_iload_n dX12_known_44 rfl ?_
      refine r_if_ge (tgt := 52) dX12_known_45 rfl (fun h8 => ?_) (fun h8 => ?_)
      · refine r_iload_n dX12_known_52 rfl ?_
        exact r_iret (ty := .int) dX12_known_53 rfl rfl rfl
      refine r_iconst (x := 0) dX12_known_48 rfl ?_
      refine r_goto (tgt := 53) dX12_known_49 rfl ?_
      exact r_iret (ty := .int) dX12_known_53 rfl rfl rfl
    refine r_icmp_eq (tgt := 24) dX12_known_14 rfl (fun h2 => ?_) (fun h2 => ?_)
    · refine r_iload_n dX12_known_24 rfl ?_
      refine r_if_ge (tgt := 40) dX12_known_25 rfl (fun h3 => ?_) (fun h3 => ?_)
      · refine r_aload_n dX12_known_40 rfl ?_
        refine c_OV rfl (inv_V (mi := mi_X12_known) (b := 0) (rest := []) (X12_goOn_ok G M) rfl (by decide) dX12_known_41 lkm_X12_275 cal_X12_goOn cM_0 rfl rfl (Nat.le_of_ble_eq_true rfl) rfl) (fun M4 => ?_)
        exact r_lk (hj44 M4) (And.intro rfl True.intro)
      refine r_aload_n dX12_known_28 rfl ?_
      refine r_iconst (x := 5) dX12_known_29 rfl ?_
      refine r_aload_n dX12_known_30 rfl ?_
      refine r_getf (v := .int (M.1 0 6)) dX12_known_31 fM_0_6 kX12 (by decide) lkf_X12_236 rfl ?_
      refine c_V (inv_V (mi := mi_X12_known) (b := 0) (rest := []) (X12_fails_ok G 5 (M.1 0 6) M) rfl (by decide) dX12_known_34 lkm_X12_267 cal_X12_fails cM_0 rfl rfl (Nat.le_of_ble_eq_true rfl) rfl) (fun M5 => ?_)
      refine r_goto (tgt := 44) dX12_known_37 rfl ?_
      exact r_lk (hj44 M5) (And.intro rfl True.intro)
    refine r_aload_n dX12_known_17 rfl ?_
    refine c_V (inv_V (mi := mi_X12_known) (b := 0) (rest := []) (X12_misplaced_ok G M) rfl (by decide) dX12_known_18 lkm_X12_278 cal_X12_misplaced cM_0 rfl rfl (Nat.le_of_ble_eq_true rfl) rfl) (fun M6 => ?_)
    refine r_goto (tgt := 44) dX12_known_21 rfl ?_
    exact r_lk (hj44 M6) (And.intro rfl True.intro)
  refine r_iconst (x := 0) dX12_known_7 rfl ?_
  exact r_iret (ty := .int) dX12_known_8 rfl rfl rfl

theorem dX12_readSum_0 : decode cX12_readSum 0 = .ok (.iconst 5, 1) := by decide +kernel
theorem dX12_readSum_1 : decode cX12_readSum 1 = .ok (.aload_n 0, 1) := by decide +kernel
theorem dX12_readSum_2 : decode cX12_readSum 2 = .ok (.getfield 292, 3) := by decide +kernel
theorem dX12_readSum_5 : decode cX12_readSum 5 = .ok (.imul, 1) := by decide +kernel
theorem dX12_readSum_6 : decode cX12_readSum 6 = .ok (.aload_n 0, 1) := by decide +kernel
theorem dX12_readSum_7 : decode cX12_readSum 7 = .ok (.aload_n 0, 1) := by decide +kernel
theorem dX12_readSum_8 : decode cX12_readSum 8 = .ok (.invokevirtual 342, 3) := by decide +kernel
theorem dX12_readSum_11 : decode cX12_readSum 11 = .ok (.invokevirtual 349, 3) := by decide +kernel
theorem dX12_readSum_14 : decode cX12_readSum 14 = .ok (.iadd, 1) := by decide +kernel
theorem dX12_readSum_15 : decode cX12_readSum 15 = .ok (.istore 4, 2) := by decide +kernel
theorem dX12_readSum_17 : decode cX12_readSum 17 = .ok (.aload_n 0, 1) := by decide +kernel
theorem dX12_readSum_18 : decode cX12_readSum 18 = .ok (.invokevirtual 271, 3) := by decide +kernel
theorem dX12_readSum_21 : decode cX12_readSum 21 = .ok (.ifCond .ne 4, 3) := by decide +kernel
theorem dX12_readSum_24 : decode cX12_readSum 24 = .ok (.return_, 1) := by decide +kernel
theorem dX12_readSum_25 : decode cX12_readSum 25 = .ok (.aload_n 0, 1) := by decide +kernel
theorem dX12_readSum_26 : decode cX12_readSum 26 = .ok (.invokevirtual 310, 3) := by decide +kernel
theorem dX12_readSum_29 : decode cX12_readSum 29 = .ok (.istore 5, 2) := by decide +kernel
theorem dX12_readSum_31 : decode cX12_readSum 31 = .ok (.iload 5, 2) := by decide +kernel
theorem dX12_readSum_33 : decode cX12_readSum 33 = .ok (.ifCond .lt 25, 3) := by decide +kernel
theorem dX12_readSum_36 : decode cX12_readSum 36 = .ok (.aload_n 2, 1) := by decide +kernel
theorem dX12_readSum_37 : decode cX12_readSum 37 = .ok (.iload 4, 2) := by decide +kernel
theorem dX12_readSum_39 : decode cX12_readSum 39 = .ok (.iaload, 1) := by decide +kernel
theorem dX12_readSum_40 : decode cX12_readSum 40 = .ok (.iload 5, 2) := by decide +kernel
theorem dX12_readSum_42 : decode cX12_readSum 42 = .ok (.ishr, 1) := by decide +kernel
theorem dX12_readSum_43 : decode cX12_readSum 43 = .ok (.iconst 1, 1) := by decide +kernel
theorem dX12_readSum_44 : decode cX12_readSum 44 = .ok (.iand, 1) := by decide +kernel
theorem dX12_readSum_45 : decode cX12_readSum 45 = .ok (.iconst 1, 1) := by decide +kernel
theorem dX12_readSum_46 : decode cX12_readSum 46 = .ok (.if_icmp .ne 12, 3) := by decide +kernel
theorem dX12_readSum_49 : decode cX12_readSum 49 = .ok (.aload_n 0, 1) := by decide +kernel
theorem dX12_readSum_50 : decode cX12_readSum 50 = .ok (.iconst 3, 1) := by decide +kernel
theorem dX12_readSum_51 : decode cX12_readSum 51 = .ok (.aload_n 0, 1) := by decide +kernel
theorem dX12_readSum_52 : decode cX12_readSum 52 = .ok (.getfield 236, 3) := by decide +kernel
theorem dX12_readSum_55 : decode cX12_readSum 55 = .ok (.invokevirtual 267, 3) := by decide +kernel
theorem dX12_readSum_58 : decode cX12_readSum 58 = .ok (.aload_n 0, 1) := by decide +kernel
theorem dX12_readSum_59 : decode cX12_readSum 59 = .ok (.iload 5, 2) := by decide +kernel
theorem dX12_readSum_61 : decode cX12_readSum 61 = .ok (.invokevirtual 349, 3) := by decide +kernel
theorem dX12_readSum_64 : decode cX12_readSum 64 = .ok (.istore 5, 2) := by decide +kernel
theorem dX12_readSum_66 : decode cX12_readSum 66 = .ok (.aload_n 0, 1) := by decide +kernel
theorem dX12_readSum_67 : decode cX12_readSum 67 = .ok (.iconst 0, 1) := by decide +kernel
theorem dX12_readSum_68 : decode cX12_readSum 68 = .ok (.iload_n 3, 1) := by decide +kernel
theorem dX12_readSum_69 : decode cX12_readSum 69 = .ok (.invokevirtual 288, 3) := by decide +kernel
theorem dX12_readSum_72 : decode cX12_readSum 72 = .ok (.istore 6, 2) := by decide +kernel
theorem dX12_readSum_74 : decode cX12_readSum 74 = .ok (.aload_n 0, 1) := by decide +kernel
theorem dX12_readSum_75 : decode cX12_readSum 75 = .ok (.invokevirtual 271, 3) := by decide +kernel
theorem dX12_readSum_78 : decode cX12_readSum 78 = .ok (.ifCond .ne 4, 3) := by decide +kernel
theorem dX12_readSum_81 : decode cX12_readSum 81 = .ok (.return_, 1) := by decide +kernel
theorem dX12_readSum_82 : decode cX12_readSum 82 = .ok (.aload_n 2, 1) := by decide +kernel
theorem dX12_readSum_83 : decode cX12_readSum 83 = .ok (.iload 4, 2) := by decide +kernel
theorem dX12_readSum_85 : decode cX12_readSum 85 = .ok (.dup2, 1) := by decide +kernel
theorem dX12_readSum_86 : decode cX12_readSum 86 = .ok (.iaload, 1) := by decide +kernel
theorem dX12_readSum_87 : decode cX12_readSum 87 = .ok (.iconst 1, 1) := by decide +kernel
theorem dX12_readSum_88 : decode cX12_readSum 88 = .ok (.iload 5, 2) := by decide +kernel
theorem dX12_readSum_90 : decode cX12_readSum 90 = .ok (.ishl, 1) := by decide +kernel
theorem dX12_readSum_91 : decode cX12_readSum 91 = .ok (.ior, 1) := by decide +kernel
theorem dX12_readSum_92 : decode cX12_readSum 92 = .ok (.iastore, 1) := by decide +kernel
theorem dX12_readSum_93 : decode cX12_readSum 93 = .ok (.aload_n 1, 1) := by decide +kernel
theorem dX12_readSum_94 : decode cX12_readSum 94 = .ok (.iconst 3, 1) := by decide +kernel
theorem dX12_readSum_95 : decode cX12_readSum 95 = .ok (.iload 4, 2) := by decide +kernel
theorem dX12_readSum_97 : decode cX12_readSum 97 = .ok (.imul, 1) := by decide +kernel
theorem dX12_readSum_98 : decode cX12_readSum 98 = .ok (.iload 5, 2) := by decide +kernel
theorem dX12_readSum_100 : decode cX12_readSum 100 = .ok (.iadd, 1) := by decide +kernel
theorem dX12_readSum_101 : decode cX12_readSum 101 = .ok (.iload 6, 2) := by decide +kernel
theorem dX12_readSum_103 : decode cX12_readSum 103 = .ok (.iastore, 1) := by decide +kernel
theorem dX12_readSum_104 : decode cX12_readSum 104 = .ok (.return_, 1) := by decide +kernel
abbrev mi_X12_readSum : MI := (zTM, RX12, yX12_readSum, cX12_readSum, 7, none, 5)
theorem cal_X12_readSum : zCalV mi_X12_readSum 3 := ⟨⟨zTB_i7 222 (by decide +kernel), zTB_i7 221 (by decide +kernel), zTB_i0 64 (by decide +kernel), zTB_i1 13 (by decide +kernel)⟩, ⟨by decide, by decide, by decide +kernel⟩, by decide⟩
noncomputable def X12_readSum (a1 : Nat) (a2 : Nat) (x3 : Int32) (M : Mem) : Option (Mem) :=
  bo_ (X12_manHere M) fun v1 =>
  bp_ (X12_known v1 M) fun v2 M3 =>
  lt_ (α := Int32) ((5 * (M.1 0 42)) + v2) fun y4 =>
  if (X12_isGood M3) = true then
    bo_ (X12_kindHere M3) fun v6 =>
    b1_ (α := Mem) (
      if v6 < 0 then
        some M3
      else
      gd_ (inb y4 (zlen zTM a2) = true) (
      if (((M3.1 a2 y4.toNatClampNeg) >>> (v6 &&& 31)) &&& 1) = 1 then
        lt_ (X12_fails 3 (M3.1 0 6) M3) fun M10 =>
        some M10
      else
      some M3)) fun M11 =>
    bp_ (X12_known v6 M11) fun v12 M13 =>
    bp_ (X12_numeral 0 x3 M13) fun v14 M15 =>
    if (X12_isGood M15) = true then
      gd_ (inb y4 (zlen zTM a2) = true) (
      lt_ (uI M15 a2 y4.toNatClampNeg ((M15.1 a2 y4.toNatClampNeg) ||| (1 <<< (v12 &&& 31)))) fun M18 =>
      gd_ (inb ((3 * y4) + v12) (zlen zTM a1) = true) (
      lt_ (uI M18 a1 (((3 * y4) + v12).toNatClampNeg) v14) fun M20 =>
      some M20))
    else
    some M15
  else
  some M3
set_option maxRecDepth 100000 in
set_option maxHeartbeats 4000000 in
theorem X12_readSum_ok (G : Gh) {a1 : Nat} (ha1 : zar zTM a1 = some (0, zlen zTM a1)) {a2 : Nat} (ha2 : zar zTM a2 = some (0, zlen zTM a2)) (x3 : Int32) (M : Mem) : Mt G mi_X12_readSum [.ref (G.2.2.2 (0)), .ref (G.2.2.2 (a1)), .ref (G.2.2.2 (a2)), .int x3] M ((dO dV) (X12_readSum a1 a2 x3 M)) := by
  refine Mt_of (lv := [some (.ref (G.2.2.2 (0))), some (.ref (G.2.2.2 (a1))), some (.ref (G.2.2.2 (a2))), some (.int x3)]) (by decide) rfl (Nat.le_of_ble_eq_true rfl) rfl ?_
  refine r_le (lv' := [some (.ref (G.2.2.2 (0))), some (.ref (G.2.2.2 (a1))), some (.ref (G.2.2.2 (a2))), some (.int x3), none, none, none]) (And.intro rfl (And.intro rfl (And.intro rfl (And.intro rfl True.intro)))) ?_
  unfold X12_readSum
  refine r_iconst (x := 5) dX12_readSum_0 rfl ?_
  refine r_aload_n dX12_readSum_1 rfl ?_
  refine r_getf (v := .int (M.1 0 42)) dX12_readSum_2 fM_0_42 kX12 (by decide) lkf_X12_292 rfl ?_
  refine r_imul dX12_readSum_5 ?_
  refine r_aload_n dX12_readSum_6 rfl ?_
  refine r_aload_n dX12_readSum_7 rfl ?_
  refine c_OI rfl (inv_V (mi := mi_X12_readSum) (b := 0) (rest := [.ref (G.2.2.2 (0)), .int (5 * (M.1 0 42))]) (X12_manHere_ok G M) rfl (by decide) dX12_readSum_8 lkm_X12_342 cal_X12_manHere cM_0 rfl rfl (Nat.le_of_ble_eq_true rfl) rfl) (fun v1 => ?_)
  refine c_OIM rfl (inv_V (mi := mi_X12_readSum) (b := 0) (rest := [.int (5 * (M.1 0 42))]) (X12_known_ok G v1 M) rfl (by decide) dX12_readSum_11 lkm_X12_349 cal_X12_known cM_0 rfl rfl (Nat.le_of_ble_eq_true rfl) rfl) (fun v2 M3 => ?_)
  refine r_iadd dX12_readSum_14 ?_
  refine r_letI (fun y4 => ?_)
  refine r_istore (lv' := [some (.ref (G.2.2.2 (0))), some (.ref (G.2.2.2 (a1))), some (.ref (G.2.2.2 (a2))), some (.int x3), some (.int y4), none, none]) dX12_readSum_15 (Nat.le_of_ble_eq_true rfl) rfl rfl ?_
  refine r_aload_n dX12_readSum_17 rfl ?_
  refine c_Z (inv_V (mi := mi_X12_readSum) (b := 0) (rest := []) (X12_isGood_ok G M3) rfl (by decide) dX12_readSum_18 lkm_X12_271 cal_X12_isGood cM_0 rfl rfl (Nat.le_of_ble_eq_true rfl) rfl) ?_
  refine r_ifz_ne (tgt := 25) dX12_readSum_21 rfl (fun h5 => ?_) (fun h5 => ?_)
  · refine r_aload_n dX12_readSum_25 rfl ?_
    refine c_OI rfl (inv_V (mi := mi_X12_readSum) (b := 0) (rest := []) (X12_kindHere_ok G M3) rfl (by decide) dX12_readSum_26 lkm_X12_310 cal_X12_kindHere cM_0 rfl rfl (Nat.le_of_ble_eq_true rfl) rfl) (fun v6 => ?_)
    refine r_istore (lv' := [some (.ref (G.2.2.2 (0))), some (.ref (G.2.2.2 (a1))), some (.ref (G.2.2.2 (a2))), some (.int x3), some (.int y4), some (.int v6), none]) dX12_readSum_29 (Nat.le_of_ble_eq_true rfl) rfl rfl ?_
    refine r_iload dX12_readSum_31 rfl ?_
    refine r_jB1 (j := 58) (lvj := fun M11 => [some (.ref (G.2.2.2 (0))), some (.ref (G.2.2.2 (a1))), some (.ref (G.2.2.2 (a2))), some (.int x3), some (.int y4), some (.int v6), none]) (stj := fun M11 => []) (Mj := fun M11 => M11) (fun M11 => ?_) (fun hj58 => ?_)
    · refine r_aload_n dX12_readSum_58 rfl ?_
      refine r_iload dX12_readSum_59 rfl ?_
      refine c_OIM rfl (inv_V (mi := mi_X12_readSum) (b := 0) (rest := []) (X12_known_ok G v6 M11) rfl (by decide) dX12_readSum_61 lkm_X12_349 cal_X12_known cM_0 rfl rfl (Nat.le_of_ble_eq_true rfl) rfl) (fun v12 M13 => ?_)
      refine r_istore (lv' := [some (.ref (G.2.2.2 (0))), some (.ref (G.2.2.2 (a1))), some (.ref (G.2.2.2 (a2))), some (.int x3), some (.int y4), some (.int v12), none]) dX12_readSum_64 (Nat.le_of_ble_eq_true rfl) rfl rfl ?_
      refine r_aload_n dX12_readSum_66 rfl ?_
      refine r_iconst (x := 0) dX12_readSum_67 rfl ?_
      refine r_iload_n dX12_readSum_68 rfl ?_
      refine c_OIM rfl (inv_V (mi := mi_X12_readSum) (b := 0) (rest := []) (X12_numeral_ok G 0 x3 M13) rfl (by decide) dX12_readSum_69 lkm_X12_288 cal_X12_numeral cM_0 rfl rfl (Nat.le_of_ble_eq_true rfl) rfl) (fun v14 M15 => ?_)
      refine r_istore (lv' := [some (.ref (G.2.2.2 (0))), some (.ref (G.2.2.2 (a1))), some (.ref (G.2.2.2 (a2))), some (.int x3), some (.int y4), some (.int v12), some (.int v14)]) dX12_readSum_72 (Nat.le_of_ble_eq_true rfl) rfl rfl ?_
      refine r_aload_n dX12_readSum_74 rfl ?_
      refine c_Z (inv_V (mi := mi_X12_readSum) (b := 0) (rest := []) (X12_isGood_ok G M15) rfl (by decide) dX12_readSum_75 lkm_X12_271 cal_X12_isGood cM_0 rfl rfl (Nat.le_of_ble_eq_true rfl) rfl) ?_
      refine r_ifz_ne (tgt := 82) dX12_readSum_78 rfl (fun h16 => ?_) (fun h16 => ?_)
      · refine r_aload_n dX12_readSum_82 rfl ?_
        refine r_iload dX12_readSum_83 rfl ?_
        refine r_dup2 dX12_readSum_85 rfl rfl ?_
        refine r_gd rfl (fun g17 => ?_)
        refine r_iald dX12_readSum_86 ha2 (inb_in g17) rfl ?_
        refine r_iconst (x := 1) dX12_readSum_87 rfl ?_
        refine r_iload dX12_readSum_88 rfl ?_
        refine r_ishl dX12_readSum_90 ?_
        refine r_ior dX12_readSum_91 ?_
        refine r_iast dX12_readSum_92 ha2 (inb_in g17) rfl (fun M18 => ?_)
        refine r_aload_n dX12_readSum_93 rfl ?_
        refine r_iconst (x := 3) dX12_readSum_94 rfl ?_
        refine r_iload dX12_readSum_95 rfl ?_
        refine r_imul dX12_readSum_97 ?_
        refine r_iload dX12_readSum_98 rfl ?_
        refine r_iadd dX12_readSum_100 ?_
        refine r_iload dX12_readSum_101 rfl ?_
        refine r_gd rfl (fun g19 => ?_)
        refine r_iast dX12_readSum_103 ha1 (inb_in g19) rfl (fun M20 => ?_)
        exact r_vret dX12_readSum_104 rfl rfl
      exact r_vret dX12_readSum_81 rfl rfl
    refine r_if_lt (tgt := 58) dX12_readSum_33 rfl (fun h7 => ?_) (fun h7 => ?_)
    · exact r_lk (hj58 M3) (And.intro rfl (And.intro rfl (And.intro rfl (And.intro rfl (And.intro rfl (And.intro rfl True.intro))))))
    refine r_aload_n dX12_readSum_36 rfl ?_
    refine r_iload dX12_readSum_37 rfl ?_
    refine r_gd rfl (fun g8 => ?_)
    refine r_iald dX12_readSum_39 ha2 (inb_in g8) rfl ?_
    refine r_iload dX12_readSum_40 rfl ?_
    refine r_ishr dX12_readSum_42 ?_
    refine r_iconst (x := 1) dX12_readSum_43 rfl ?_
    refine r_iand dX12_readSum_44 ?_
    refine r_iconst (x := 1) dX12_readSum_45 rfl ?_
    refine r_icmp_ne (tgt := 58) dX12_readSum_46 rfl (fun h9 => ?_) (fun h9 => ?_)
    · refine r_aload_n dX12_readSum_49 rfl ?_
      refine r_iconst (x := 3) dX12_readSum_50 rfl ?_
      refine r_aload_n dX12_readSum_51 rfl ?_
      refine r_getf (v := .int (M3.1 0 6)) dX12_readSum_52 fM_0_6 kX12 (by decide) lkf_X12_236 rfl ?_
      refine c_V (inv_V (mi := mi_X12_readSum) (b := 0) (rest := []) (X12_fails_ok G 3 (M3.1 0 6) M3) rfl (by decide) dX12_readSum_55 lkm_X12_267 cal_X12_fails cM_0 rfl rfl (Nat.le_of_ble_eq_true rfl) rfl) (fun M10 => ?_)
      exact r_lk (hj58 M10) (And.intro rfl (And.intro rfl (And.intro rfl (And.intro rfl (And.intro rfl (And.intro rfl True.intro))))))
    exact r_lk (hj58 M3) (And.intro rfl (And.intro rfl (And.intro rfl (And.intro rfl (And.intro rfl (And.intro rfl True.intro))))))
  exact r_vret dX12_readSum_24 rfl rfl

theorem dX12_readHedge_0 : decode cX12_readHedge 0 = .ok (.aload_n 0, 1) := by decide +kernel
theorem dX12_readHedge_1 : decode cX12_readHedge 1 = .ok (.invokevirtual 342, 3) := by decide +kernel
theorem dX12_readHedge_4 : decode cX12_readHedge 4 = .ok (.istore_n 1, 1) := by decide +kernel
theorem dX12_readHedge_5 : decode cX12_readHedge 5 = .ok (.aload_n 0, 1) := by decide +kernel
theorem dX12_readHedge_6 : decode cX12_readHedge 6 = .ok (.invokevirtual 271, 3) := by decide +kernel
theorem dX12_readHedge_9 : decode cX12_readHedge 9 = .ok (.ifCond .eq 33, 3) := by decide +kernel
theorem dX12_readHedge_12 : decode cX12_readHedge 12 = .ok (.iload_n 1, 1) := by decide +kernel
theorem dX12_readHedge_13 : decode cX12_readHedge 13 = .ok (.ifCond .lt 29, 3) := by decide +kernel
theorem dX12_readHedge_16 : decode cX12_readHedge 16 = .ok (.aload_n 0, 1) := by decide +kernel
theorem dX12_readHedge_17 : decode cX12_readHedge 17 = .ok (.getfield 45, 3) := by decide +kernel
theorem dX12_readHedge_20 : decode cX12_readHedge 20 = .ok (.aload_n 0, 1) := by decide +kernel
theorem dX12_readHedge_21 : decode cX12_readHedge 21 = .ok (.getfield 292, 3) := by decide +kernel
theorem dX12_readHedge_24 : decode cX12_readHedge 24 = .ok (.iaload, 1) := by decide +kernel
theorem dX12_readHedge_25 : decode cX12_readHedge 25 = .ok (.iload_n 1, 1) := by decide +kernel
theorem dX12_readHedge_26 : decode cX12_readHedge 26 = .ok (.ishr, 1) := by decide +kernel
theorem dX12_readHedge_27 : decode cX12_readHedge 27 = .ok (.iconst 1, 1) := by decide +kernel
theorem dX12_readHedge_28 : decode cX12_readHedge 28 = .ok (.iand, 1) := by decide +kernel
theorem dX12_readHedge_29 : decode cX12_readHedge 29 = .ok (.iconst 1, 1) := by decide +kernel
theorem dX12_readHedge_30 : decode cX12_readHedge 30 = .ok (.if_icmp .ne 12, 3) := by decide +kernel
theorem dX12_readHedge_33 : decode cX12_readHedge 33 = .ok (.aload_n 0, 1) := by decide +kernel
theorem dX12_readHedge_34 : decode cX12_readHedge 34 = .ok (.iconst 3, 1) := by decide +kernel
theorem dX12_readHedge_35 : decode cX12_readHedge 35 = .ok (.aload_n 0, 1) := by decide +kernel
theorem dX12_readHedge_36 : decode cX12_readHedge 36 = .ok (.getfield 236, 3) := by decide +kernel
theorem dX12_readHedge_39 : decode cX12_readHedge 39 = .ok (.invokevirtual 267, 3) := by decide +kernel
theorem dX12_readHedge_42 : decode cX12_readHedge 42 = .ok (.aload_n 0, 1) := by decide +kernel
theorem dX12_readHedge_43 : decode cX12_readHedge 43 = .ok (.iload_n 1, 1) := by decide +kernel
theorem dX12_readHedge_44 : decode cX12_readHedge 44 = .ok (.invokevirtual 349, 3) := by decide +kernel
theorem dX12_readHedge_47 : decode cX12_readHedge 47 = .ok (.istore_n 1, 1) := by decide +kernel
theorem dX12_readHedge_48 : decode cX12_readHedge 48 = .ok (.aload_n 0, 1) := by decide +kernel
theorem dX12_readHedge_49 : decode cX12_readHedge 49 = .ok (.iconst 0, 1) := by decide +kernel
theorem dX12_readHedge_50 : decode cX12_readHedge 50 = .ok (.bipush 10, 2) := by decide +kernel
theorem dX12_readHedge_52 : decode cX12_readHedge 52 = .ok (.invokevirtual 288, 3) := by decide +kernel
theorem dX12_readHedge_55 : decode cX12_readHedge 55 = .ok (.istore_n 2, 1) := by decide +kernel
theorem dX12_readHedge_56 : decode cX12_readHedge 56 = .ok (.aload_n 0, 1) := by decide +kernel
theorem dX12_readHedge_57 : decode cX12_readHedge 57 = .ok (.invokevirtual 271, 3) := by decide +kernel
theorem dX12_readHedge_60 : decode cX12_readHedge 60 = .ok (.ifCond .ne 4, 3) := by decide +kernel
theorem dX12_readHedge_63 : decode cX12_readHedge 63 = .ok (.return_, 1) := by decide +kernel
theorem dX12_readHedge_64 : decode cX12_readHedge 64 = .ok (.aload_n 0, 1) := by decide +kernel
theorem dX12_readHedge_65 : decode cX12_readHedge 65 = .ok (.getfield 45, 3) := by decide +kernel
theorem dX12_readHedge_68 : decode cX12_readHedge 68 = .ok (.aload_n 0, 1) := by decide +kernel
theorem dX12_readHedge_69 : decode cX12_readHedge 69 = .ok (.getfield 292, 3) := by decide +kernel
theorem dX12_readHedge_72 : decode cX12_readHedge 72 = .ok (.dup2, 1) := by decide +kernel
theorem dX12_readHedge_73 : decode cX12_readHedge 73 = .ok (.iaload, 1) := by decide +kernel
theorem dX12_readHedge_74 : decode cX12_readHedge 74 = .ok (.iconst 1, 1) := by decide +kernel
theorem dX12_readHedge_75 : decode cX12_readHedge 75 = .ok (.iload_n 1, 1) := by decide +kernel
theorem dX12_readHedge_76 : decode cX12_readHedge 76 = .ok (.ishl, 1) := by decide +kernel
theorem dX12_readHedge_77 : decode cX12_readHedge 77 = .ok (.ior, 1) := by decide +kernel
theorem dX12_readHedge_78 : decode cX12_readHedge 78 = .ok (.iastore, 1) := by decide +kernel
theorem dX12_readHedge_79 : decode cX12_readHedge 79 = .ok (.aload_n 0, 1) := by decide +kernel
theorem dX12_readHedge_80 : decode cX12_readHedge 80 = .ok (.getfield 51, 3) := by decide +kernel
theorem dX12_readHedge_83 : decode cX12_readHedge 83 = .ok (.iconst 5, 1) := by decide +kernel
theorem dX12_readHedge_84 : decode cX12_readHedge 84 = .ok (.aload_n 0, 1) := by decide +kernel
theorem dX12_readHedge_85 : decode cX12_readHedge 85 = .ok (.getfield 292, 3) := by decide +kernel
theorem dX12_readHedge_88 : decode cX12_readHedge 88 = .ok (.imul, 1) := by decide +kernel
theorem dX12_readHedge_89 : decode cX12_readHedge 89 = .ok (.iload_n 1, 1) := by decide +kernel
theorem dX12_readHedge_90 : decode cX12_readHedge 90 = .ok (.iadd, 1) := by decide +kernel
theorem dX12_readHedge_91 : decode cX12_readHedge 91 = .ok (.iload_n 2, 1) := by decide +kernel
theorem dX12_readHedge_92 : decode cX12_readHedge 92 = .ok (.iastore, 1) := by decide +kernel
theorem dX12_readHedge_93 : decode cX12_readHedge 93 = .ok (.return_, 1) := by decide +kernel
abbrev mi_X12_readHedge : MI := (zTM, RX12, yX12_readHedge, cX12_readHedge, 3, none, 5)
theorem cal_X12_readHedge : zCalV mi_X12_readHedge 0 := ⟨⟨zTB_i7 230 (by decide +kernel), zTB_i7 229 (by decide +kernel), zTB_i0 66 (by decide +kernel), zTB_i1 13 (by decide +kernel)⟩, ⟨by decide, by decide, by decide +kernel⟩, by decide⟩
noncomputable def X12_readHedge (M : Mem) : Option (Mem) :=
  bo_ (X12_manHere M) fun v1 =>
  b1_ (α := Mem) (
    if (X12_isGood M) = true then
      if v1 < 0 then
        some M
      else
      gd_ (inb (M.1 0 42) (2) = true) (
      if (((M.1 11 ((M.1 0 42).toNatClampNeg)) >>> (v1 &&& 31)) &&& 1) = 1 then
        lt_ (X12_fails 3 (M.1 0 6) M) fun M6 =>
        some M6
      else
      some M)
    else
    some M) fun M7 =>
  bp_ (X12_known v1 M7) fun v8 M9 =>
  bp_ (X12_numeral 0 10 M9) fun v10 M11 =>
  if (X12_isGood M11) = true then
    gd_ (inb (M11.1 0 42) (2) = true) (
    lt_ (uI M11 11 ((M11.1 0 42).toNatClampNeg) ((M11.1 11 ((M11.1 0 42).toNatClampNeg)) ||| (1 <<< (v8 &&& 31)))) fun M14 =>
    gd_ (inb ((5 * (M14.1 0 42)) + v8) (10) = true) (
    lt_ (uI M14 13 (((5 * (M14.1 0 42)) + v8).toNatClampNeg) v10) fun M16 =>
    some M16))
  else
  some M11
set_option maxRecDepth 100000 in
set_option maxHeartbeats 4000000 in
theorem X12_readHedge_ok (G : Gh) (M : Mem) : Mt G mi_X12_readHedge [.ref (G.2.2.2 (0))] M ((dO dV) (X12_readHedge M)) := by
  refine Mt_of (lv := [some (.ref (G.2.2.2 (0)))]) (by decide) rfl (Nat.le_of_ble_eq_true rfl) rfl ?_
  refine r_le (lv' := [some (.ref (G.2.2.2 (0))), none, none]) (And.intro rfl True.intro) ?_
  unfold X12_readHedge
  refine r_aload_n dX12_readHedge_0 rfl ?_
  refine c_OI rfl (inv_V (mi := mi_X12_readHedge) (b := 0) (rest := []) (X12_manHere_ok G M) rfl (by decide) dX12_readHedge_1 lkm_X12_342 cal_X12_manHere cM_0 rfl rfl (Nat.le_of_ble_eq_true rfl) rfl) (fun v1 => ?_)
  refine r_istore_n (lv' := [some (.ref (G.2.2.2 (0))), some (.int v1), none]) dX12_readHedge_4 (Nat.le_of_ble_eq_true rfl) rfl rfl ?_
  refine r_aload_n dX12_readHedge_5 rfl ?_
  refine c_Z (inv_V (mi := mi_X12_readHedge) (b := 0) (rest := []) (X12_isGood_ok G M) rfl (by decide) dX12_readHedge_6 lkm_X12_271 cal_X12_isGood cM_0 rfl rfl (Nat.le_of_ble_eq_true rfl) rfl) ?_
  refine r_jB1 (j := 42) (lvj := fun M7 => [some (.ref (G.2.2.2 (0))), some (.int v1), none]) (stj := fun M7 => []) (Mj := fun M7 => M7) (fun M7 => ?_) (fun hj42 => ?_)
  · refine r_aload_n dX12_readHedge_42 rfl ?_
    refine r_iload_n dX12_readHedge_43 rfl ?_
    refine c_OIM rfl (inv_V (mi := mi_X12_readHedge) (b := 0) (rest := []) (X12_known_ok G v1 M7) rfl (by decide) dX12_readHedge_44 lkm_X12_349 cal_X12_known cM_0 rfl rfl (Nat.le_of_ble_eq_true rfl) rfl) (fun v8 M9 => ?_)
    refine r_istore_n (lv' := [some (.ref (G.2.2.2 (0))), some (.int v8), none]) dX12_readHedge_47 (Nat.le_of_ble_eq_true rfl) rfl rfl ?_
    refine r_aload_n dX12_readHedge_48 rfl ?_
    refine r_iconst (x := 0) dX12_readHedge_49 rfl ?_
    refine r_bipush (x := 10) dX12_readHedge_50 rfl ?_
    refine c_OIM rfl (inv_V (mi := mi_X12_readHedge) (b := 0) (rest := []) (X12_numeral_ok G 0 10 M9) rfl (by decide) dX12_readHedge_52 lkm_X12_288 cal_X12_numeral cM_0 rfl rfl (Nat.le_of_ble_eq_true rfl) rfl) (fun v10 M11 => ?_)
    refine r_istore_n (lv' := [some (.ref (G.2.2.2 (0))), some (.int v8), some (.int v10)]) dX12_readHedge_55 (Nat.le_of_ble_eq_true rfl) rfl rfl ?_
    refine r_aload_n dX12_readHedge_56 rfl ?_
    refine c_Z (inv_V (mi := mi_X12_readHedge) (b := 0) (rest := []) (X12_isGood_ok G M11) rfl (by decide) dX12_readHedge_57 lkm_X12_271 cal_X12_isGood cM_0 rfl rfl (Nat.le_of_ble_eq_true rfl) rfl) ?_
    refine r_ifz_ne (tgt := 64) dX12_readHedge_60 rfl (fun h12 => ?_) (fun h12 => ?_)
    · refine r_aload_n dX12_readHedge_64 rfl ?_
      refine r_getf (v := .ref (G.2.2.2 (11))) dX12_readHedge_65 fM_0_19 kX12 (by decide) lkf_X12_45 rfl ?_
      refine r_aload_n dX12_readHedge_68 rfl ?_
      refine r_getf (v := .int (M11.1 0 42)) dX12_readHedge_69 fM_0_42 kX12 (by decide) lkf_X12_292 rfl ?_
      refine r_dup2 dX12_readHedge_72 rfl rfl ?_
      refine r_gd rfl (fun g13 => ?_)
      refine r_iald dX12_readHedge_73 aM_11 (inb_in g13) rfl ?_
      refine r_iconst (x := 1) dX12_readHedge_74 rfl ?_
      refine r_iload_n dX12_readHedge_75 rfl ?_
      refine r_ishl dX12_readHedge_76 ?_
      refine r_ior dX12_readHedge_77 ?_
      refine r_iast dX12_readHedge_78 aM_11 (inb_in g13) rfl (fun M14 => ?_)
      refine r_aload_n dX12_readHedge_79 rfl ?_
      refine r_getf (v := .ref (G.2.2.2 (13))) dX12_readHedge_80 fM_0_21 kX12 (by decide) lkf_X12_51 rfl ?_
      refine r_iconst (x := 5) dX12_readHedge_83 rfl ?_
      refine r_aload_n dX12_readHedge_84 rfl ?_
      refine r_getf (v := .int (M14.1 0 42)) dX12_readHedge_85 fM_0_42 kX12 (by decide) lkf_X12_292 rfl ?_
      refine r_imul dX12_readHedge_88 ?_
      refine r_iload_n dX12_readHedge_89 rfl ?_
      refine r_iadd dX12_readHedge_90 ?_
      refine r_iload_n dX12_readHedge_91 rfl ?_
      refine r_gd rfl (fun g15 => ?_)
      refine r_iast dX12_readHedge_92 aM_13 (inb_in g15) rfl (fun M16 => ?_)
      exact r_vret dX12_readHedge_93 rfl rfl
    exact r_vret dX12_readHedge_63 rfl rfl
  refine r_ifz_eq (tgt := 42) dX12_readHedge_9 rfl (fun h2 => ?_) (fun h2 => ?_)
  · refine r_iload_n dX12_readHedge_12 rfl ?_
    refine r_if_lt (tgt := 42) dX12_readHedge_13 rfl (fun h3 => ?_) (fun h3 => ?_)
    · exact r_lk (hj42 M) (And.intro rfl (And.intro rfl True.intro))
    refine r_aload_n dX12_readHedge_16 rfl ?_
    refine r_getf (v := .ref (G.2.2.2 (11))) dX12_readHedge_17 fM_0_19 kX12 (by decide) lkf_X12_45 rfl ?_
    refine r_aload_n dX12_readHedge_20 rfl ?_
    refine r_getf (v := .int (M.1 0 42)) dX12_readHedge_21 fM_0_42 kX12 (by decide) lkf_X12_292 rfl ?_
    refine r_gd rfl (fun g4 => ?_)
    refine r_iald dX12_readHedge_24 aM_11 (inb_in g4) rfl ?_
    refine r_iload_n dX12_readHedge_25 rfl ?_
    refine r_ishr dX12_readHedge_26 ?_
    refine r_iconst (x := 1) dX12_readHedge_27 rfl ?_
    refine r_iand dX12_readHedge_28 ?_
    refine r_iconst (x := 1) dX12_readHedge_29 rfl ?_
    refine r_icmp_ne (tgt := 42) dX12_readHedge_30 rfl (fun h5 => ?_) (fun h5 => ?_)
    · refine r_aload_n dX12_readHedge_33 rfl ?_
      refine r_iconst (x := 3) dX12_readHedge_34 rfl ?_
      refine r_aload_n dX12_readHedge_35 rfl ?_
      refine r_getf (v := .int (M.1 0 6)) dX12_readHedge_36 fM_0_6 kX12 (by decide) lkf_X12_236 rfl ?_
      refine c_V (inv_V (mi := mi_X12_readHedge) (b := 0) (rest := []) (X12_fails_ok G 3 (M.1 0 6) M) rfl (by decide) dX12_readHedge_39 lkm_X12_267 cal_X12_fails cM_0 rfl rfl (Nat.le_of_ble_eq_true rfl) rfl) (fun M6 => ?_)
      exact r_lk (hj42 M6) (And.intro rfl (And.intro rfl True.intro))
    exact r_lk (hj42 M) (And.intro rfl (And.intro rfl True.intro))
  exact r_lk (hj42 M) (And.intro rfl (And.intro rfl True.intro))

theorem dX12_readRate_0 : decode cX12_readRate 0 = .ok (.aload_n 0, 1) := by decide +kernel
theorem dX12_readRate_1 : decode cX12_readRate 1 = .ok (.aload_n 0, 1) := by decide +kernel
theorem dX12_readRate_2 : decode cX12_readRate 2 = .ok (.invokevirtual 310, 3) := by decide +kernel
theorem dX12_readRate_5 : decode cX12_readRate 5 = .ok (.invokevirtual 349, 3) := by decide +kernel
theorem dX12_readRate_8 : decode cX12_readRate 8 = .ok (.istore_n 1, 1) := by decide +kernel
theorem dX12_readRate_9 : decode cX12_readRate 9 = .ok (.aload_n 0, 1) := by decide +kernel
theorem dX12_readRate_10 : decode cX12_readRate 10 = .ok (.iconst 1, 1) := by decide +kernel
theorem dX12_readRate_11 : decode cX12_readRate 11 = .ok (.bipush 9, 2) := by decide +kernel
theorem dX12_readRate_13 : decode cX12_readRate 13 = .ok (.invokevirtual 288, 3) := by decide +kernel
theorem dX12_readRate_16 : decode cX12_readRate 16 = .ok (.istore_n 2, 1) := by decide +kernel
theorem dX12_readRate_17 : decode cX12_readRate 17 = .ok (.aload_n 0, 1) := by decide +kernel
theorem dX12_readRate_18 : decode cX12_readRate 18 = .ok (.aload_n 0, 1) := by decide +kernel
theorem dX12_readRate_19 : decode cX12_readRate 19 = .ok (.ldc2_w 207, 3) := by decide +kernel
theorem dX12_readRate_22 : decode cX12_readRate 22 = .ok (.invokevirtual 281, 3) := by decide +kernel
theorem dX12_readRate_25 : decode cX12_readRate 25 = .ok (.invokevirtual 284, 3) := by decide +kernel
theorem dX12_readRate_28 : decode cX12_readRate 28 = .ok (.aload_n 0, 1) := by decide +kernel
theorem dX12_readRate_29 : decode cX12_readRate 29 = .ok (.invokevirtual 271, 3) := by decide +kernel
theorem dX12_readRate_32 : decode cX12_readRate 32 = .ok (.ifCond .ne 4, 3) := by decide +kernel
theorem dX12_readRate_35 : decode cX12_readRate 35 = .ok (.return_, 1) := by decide +kernel
theorem dX12_readRate_36 : decode cX12_readRate 36 = .ok (.aload_n 0, 1) := by decide +kernel
theorem dX12_readRate_37 : decode cX12_readRate 37 = .ok (.invokevirtual 310, 3) := by decide +kernel
theorem dX12_readRate_40 : decode cX12_readRate 40 = .ok (.istore_n 3, 1) := by decide +kernel
theorem dX12_readRate_41 : decode cX12_readRate 41 = .ok (.iload_n 3, 1) := by decide +kernel
theorem dX12_readRate_42 : decode cX12_readRate 42 = .ok (.ifCond .lt 38, 3) := by decide +kernel
theorem dX12_readRate_45 : decode cX12_readRate 45 = .ok (.iload_n 3, 1) := by decide +kernel
theorem dX12_readRate_46 : decode cX12_readRate 46 = .ok (.iload_n 1, 1) := by decide +kernel
theorem dX12_readRate_47 : decode cX12_readRate 47 = .ok (.if_icmp .eq 24, 3) := by decide +kernel
theorem dX12_readRate_50 : decode cX12_readRate 50 = .ok (.aload_n 0, 1) := by decide +kernel
theorem dX12_readRate_51 : decode cX12_readRate 51 = .ok (.getfield 66, 3) := by decide +kernel
theorem dX12_readRate_54 : decode cX12_readRate 54 = .ok (.bipush 9, 2) := by decide +kernel
theorem dX12_readRate_56 : decode cX12_readRate 56 = .ok (.aload_n 0, 1) := by decide +kernel
theorem dX12_readRate_57 : decode cX12_readRate 57 = .ok (.getfield 292, 3) := by decide +kernel
theorem dX12_readRate_60 : decode cX12_readRate 60 = .ok (.imul, 1) := by decide +kernel
theorem dX12_readRate_61 : decode cX12_readRate 61 = .ok (.iconst 3, 1) := by decide +kernel
theorem dX12_readRate_62 : decode cX12_readRate 62 = .ok (.iload_n 1, 1) := by decide +kernel
theorem dX12_readRate_63 : decode cX12_readRate 63 = .ok (.imul, 1) := by decide +kernel
theorem dX12_readRate_64 : decode cX12_readRate 64 = .ok (.iadd, 1) := by decide +kernel
theorem dX12_readRate_65 : decode cX12_readRate 65 = .ok (.iload_n 3, 1) := by decide +kernel
theorem dX12_readRate_66 : decode cX12_readRate 66 = .ok (.iadd, 1) := by decide +kernel
theorem dX12_readRate_67 : decode cX12_readRate 67 = .ok (.iaload, 1) := by decide +kernel
theorem dX12_readRate_68 : decode cX12_readRate 68 = .ok (.ifCond .le 12, 3) := by decide +kernel
theorem dX12_readRate_71 : decode cX12_readRate 71 = .ok (.aload_n 0, 1) := by decide +kernel
theorem dX12_readRate_72 : decode cX12_readRate 72 = .ok (.iconst 3, 1) := by decide +kernel
theorem dX12_readRate_73 : decode cX12_readRate 73 = .ok (.aload_n 0, 1) := by decide +kernel
theorem dX12_readRate_74 : decode cX12_readRate 74 = .ok (.getfield 236, 3) := by decide +kernel
theorem dX12_readRate_77 : decode cX12_readRate 77 = .ok (.invokevirtual 267, 3) := by decide +kernel
theorem dX12_readRate_80 : decode cX12_readRate 80 = .ok (.aload_n 0, 1) := by decide +kernel
theorem dX12_readRate_81 : decode cX12_readRate 81 = .ok (.iload_n 3, 1) := by decide +kernel
theorem dX12_readRate_82 : decode cX12_readRate 82 = .ok (.invokevirtual 349, 3) := by decide +kernel
theorem dX12_readRate_85 : decode cX12_readRate 85 = .ok (.istore_n 3, 1) := by decide +kernel
theorem dX12_readRate_86 : decode cX12_readRate 86 = .ok (.aload_n 0, 1) := by decide +kernel
theorem dX12_readRate_87 : decode cX12_readRate 87 = .ok (.iconst 1, 1) := by decide +kernel
theorem dX12_readRate_88 : decode cX12_readRate 88 = .ok (.bipush 9, 2) := by decide +kernel
theorem dX12_readRate_90 : decode cX12_readRate 90 = .ok (.invokevirtual 288, 3) := by decide +kernel
theorem dX12_readRate_93 : decode cX12_readRate 93 = .ok (.istore 4, 2) := by decide +kernel
theorem dX12_readRate_95 : decode cX12_readRate 95 = .ok (.aload_n 0, 1) := by decide +kernel
theorem dX12_readRate_96 : decode cX12_readRate 96 = .ok (.invokevirtual 271, 3) := by decide +kernel
theorem dX12_readRate_99 : decode cX12_readRate 99 = .ok (.ifCond .ne 4, 3) := by decide +kernel
theorem dX12_readRate_102 : decode cX12_readRate 102 = .ok (.return_, 1) := by decide +kernel
theorem dX12_readRate_103 : decode cX12_readRate 103 = .ok (.aload_n 0, 1) := by decide +kernel
theorem dX12_readRate_104 : decode cX12_readRate 104 = .ok (.getfield 66, 3) := by decide +kernel
theorem dX12_readRate_107 : decode cX12_readRate 107 = .ok (.bipush 9, 2) := by decide +kernel
theorem dX12_readRate_109 : decode cX12_readRate 109 = .ok (.aload_n 0, 1) := by decide +kernel
theorem dX12_readRate_110 : decode cX12_readRate 110 = .ok (.getfield 292, 3) := by decide +kernel
theorem dX12_readRate_113 : decode cX12_readRate 113 = .ok (.imul, 1) := by decide +kernel
theorem dX12_readRate_114 : decode cX12_readRate 114 = .ok (.iconst 3, 1) := by decide +kernel
theorem dX12_readRate_115 : decode cX12_readRate 115 = .ok (.iload_n 1, 1) := by decide +kernel
theorem dX12_readRate_116 : decode cX12_readRate 116 = .ok (.imul, 1) := by decide +kernel
theorem dX12_readRate_117 : decode cX12_readRate 117 = .ok (.iadd, 1) := by decide +kernel
theorem dX12_readRate_118 : decode cX12_readRate 118 = .ok (.iload_n 3, 1) := by decide +kernel
theorem dX12_readRate_119 : decode cX12_readRate 119 = .ok (.iadd, 1) := by decide +kernel
theorem dX12_readRate_120 : decode cX12_readRate 120 = .ok (.iload_n 2, 1) := by decide +kernel
theorem dX12_readRate_121 : decode cX12_readRate 121 = .ok (.iastore, 1) := by decide +kernel
theorem dX12_readRate_122 : decode cX12_readRate 122 = .ok (.aload_n 0, 1) := by decide +kernel
theorem dX12_readRate_123 : decode cX12_readRate 123 = .ok (.getfield 69, 3) := by decide +kernel
theorem dX12_readRate_126 : decode cX12_readRate 126 = .ok (.bipush 9, 2) := by decide +kernel
theorem dX12_readRate_128 : decode cX12_readRate 128 = .ok (.aload_n 0, 1) := by decide +kernel
theorem dX12_readRate_129 : decode cX12_readRate 129 = .ok (.getfield 292, 3) := by decide +kernel
theorem dX12_readRate_132 : decode cX12_readRate 132 = .ok (.imul, 1) := by decide +kernel
theorem dX12_readRate_133 : decode cX12_readRate 133 = .ok (.iconst 3, 1) := by decide +kernel
theorem dX12_readRate_134 : decode cX12_readRate 134 = .ok (.iload_n 1, 1) := by decide +kernel
theorem dX12_readRate_135 : decode cX12_readRate 135 = .ok (.imul, 1) := by decide +kernel
theorem dX12_readRate_136 : decode cX12_readRate 136 = .ok (.iadd, 1) := by decide +kernel
theorem dX12_readRate_137 : decode cX12_readRate 137 = .ok (.iload_n 3, 1) := by decide +kernel
theorem dX12_readRate_138 : decode cX12_readRate 138 = .ok (.iadd, 1) := by decide +kernel
theorem dX12_readRate_139 : decode cX12_readRate 139 = .ok (.iload 4, 2) := by decide +kernel
theorem dX12_readRate_141 : decode cX12_readRate 141 = .ok (.iastore, 1) := by decide +kernel
theorem dX12_readRate_142 : decode cX12_readRate 142 = .ok (.aload_n 0, 1) := by decide +kernel
theorem dX12_readRate_143 : decode cX12_readRate 143 = .ok (.getfield 30, 3) := by decide +kernel
theorem dX12_readRate_146 : decode cX12_readRate 146 = .ok (.aload_n 0, 1) := by decide +kernel
theorem dX12_readRate_147 : decode cX12_readRate 147 = .ok (.getfield 292, 3) := by decide +kernel
theorem dX12_readRate_150 : decode cX12_readRate 150 = .ok (.dup2, 1) := by decide +kernel
theorem dX12_readRate_151 : decode cX12_readRate 151 = .ok (.iaload, 1) := by decide +kernel
theorem dX12_readRate_152 : decode cX12_readRate 152 = .ok (.iconst 1, 1) := by decide +kernel
theorem dX12_readRate_153 : decode cX12_readRate 153 = .ok (.iadd, 1) := by decide +kernel
theorem dX12_readRate_154 : decode cX12_readRate 154 = .ok (.iastore, 1) := by decide +kernel
theorem dX12_readRate_155 : decode cX12_readRate 155 = .ok (.return_, 1) := by decide +kernel
abbrev mi_X12_readRate : MI := (zTM, RX12, yX12_readRate, cX12_readRate, 5, none, 5)
theorem cal_X12_readRate : zCalV mi_X12_readRate 0 := ⟨⟨zTB_i7 234 (by decide +kernel), zTB_i7 233 (by decide +kernel), zTB_i0 67 (by decide +kernel), zTB_i1 13 (by decide +kernel)⟩, ⟨by decide, by decide, by decide +kernel⟩, by decide⟩
noncomputable def X12_readRate (M : Mem) : Option (Mem) :=
  bo_ (X12_kindHere M) fun v1 =>
  bp_ (X12_known v1 M) fun v2 M3 =>
  bp_ (X12_numeral 1 9 M3) fun v4 M5 =>
  bo_ (X12_must (b2i ((X12_isWord 6713202 M5))) M5) fun M6 =>
  if (X12_isGood M6) = true then
    bo_ (X12_kindHere M6) fun v8 =>
    b1_ (α := Mem) (
      b1_ (α := Bool) (
        if v8 < 0 then
          some false
        else
        if v8 = v2 then
          some true
        else
        gd_ (inb (((9 * (M6.1 0 42)) + (3 * v2)) + v8) (18) = true) (
        if (M6.1 18 ((((9 * (M6.1 0 42)) + (3 * v2)) + v8).toNatClampNeg)) ≤ 0 then
          some false
        else
        some true)) fun t13 =>
      if t13 = true then
        lt_ (X12_fails 3 (M6.1 0 6) M6) fun M15 =>
        some M15
      else
      some M6) fun M16 =>
    bp_ (X12_known v8 M16) fun v17 M18 =>
    bp_ (X12_numeral 1 9 M18) fun v19 M20 =>
    if (X12_isGood M20) = true then
      gd_ (inb (((9 * (M20.1 0 42)) + (3 * v2)) + v17) (18) = true) (
      lt_ (uI M20 18 ((((9 * (M20.1 0 42)) + (3 * v2)) + v17).toNatClampNeg) v4) fun M23 =>
      gd_ (inb (((9 * (M23.1 0 42)) + (3 * v2)) + v17) (18) = true) (
      lt_ (uI M23 19 ((((9 * (M23.1 0 42)) + (3 * v2)) + v17).toNatClampNeg) v19) fun M25 =>
      gd_ (inb (M25.1 0 42) (2) = true) (
      lt_ (uI M25 6 ((M25.1 0 42).toNatClampNeg) ((M25.1 6 ((M25.1 0 42).toNatClampNeg)) + 1)) fun M27 =>
      some M27)))
    else
    some M20
  else
  some M6
set_option maxRecDepth 100000 in
set_option maxHeartbeats 4000000 in
theorem X12_readRate_ok (G : Gh) (M : Mem) : Mt G mi_X12_readRate [.ref (G.2.2.2 (0))] M ((dO dV) (X12_readRate M)) := by
  refine Mt_of (lv := [some (.ref (G.2.2.2 (0)))]) (by decide) rfl (Nat.le_of_ble_eq_true rfl) rfl ?_
  refine r_le (lv' := [some (.ref (G.2.2.2 (0))), none, none, none, none]) (And.intro rfl True.intro) ?_
  unfold X12_readRate
  refine r_aload_n dX12_readRate_0 rfl ?_
  refine r_aload_n dX12_readRate_1 rfl ?_
  refine c_OI rfl (inv_V (mi := mi_X12_readRate) (b := 0) (rest := [.ref (G.2.2.2 (0))]) (X12_kindHere_ok G M) rfl (by decide) dX12_readRate_2 lkm_X12_310 cal_X12_kindHere cM_0 rfl rfl (Nat.le_of_ble_eq_true rfl) rfl) (fun v1 => ?_)
  refine c_OIM rfl (inv_V (mi := mi_X12_readRate) (b := 0) (rest := []) (X12_known_ok G v1 M) rfl (by decide) dX12_readRate_5 lkm_X12_349 cal_X12_known cM_0 rfl rfl (Nat.le_of_ble_eq_true rfl) rfl) (fun v2 M3 => ?_)
  refine r_istore_n (lv' := [some (.ref (G.2.2.2 (0))), some (.int v2), none, none, none]) dX12_readRate_8 (Nat.le_of_ble_eq_true rfl) rfl rfl ?_
  refine r_aload_n dX12_readRate_9 rfl ?_
  refine r_iconst (x := 1) dX12_readRate_10 rfl ?_
  refine r_bipush (x := 9) dX12_readRate_11 rfl ?_
  refine c_OIM rfl (inv_V (mi := mi_X12_readRate) (b := 0) (rest := []) (X12_numeral_ok G 1 9 M3) rfl (by decide) dX12_readRate_13 lkm_X12_288 cal_X12_numeral cM_0 rfl rfl (Nat.le_of_ble_eq_true rfl) rfl) (fun v4 M5 => ?_)
  refine r_istore_n (lv' := [some (.ref (G.2.2.2 (0))), some (.int v2), some (.int v4), none, none]) dX12_readRate_16 (Nat.le_of_ble_eq_true rfl) rfl rfl ?_
  refine r_aload_n dX12_readRate_17 rfl ?_
  refine r_aload_n dX12_readRate_18 rfl ?_
  refine r_ldc2 (x := 6713202) dX12_readRate_19 lkc_X12_207 ?_
  refine c_Z (inv_V (mi := mi_X12_readRate) (b := 0) (rest := [.ref (G.2.2.2 (0))]) (X12_isWord_ok G 6713202 M5) rfl (by decide) dX12_readRate_22 lkm_X12_281 cal_X12_isWord cM_0 rfl rfl (Nat.le_of_ble_eq_true rfl) rfl) ?_
  refine c_OV rfl (inv_V (mi := mi_X12_readRate) (b := 0) (rest := []) (X12_must_ok G (b2i ((X12_isWord 6713202 M5))) M5) rfl (by decide) dX12_readRate_25 lkm_X12_284 cal_X12_must cM_0 rfl rfl (Nat.le_of_ble_eq_true rfl) rfl) (fun M6 => ?_)
  refine r_aload_n dX12_readRate_28 rfl ?_
  refine c_Z (inv_V (mi := mi_X12_readRate) (b := 0) (rest := []) (X12_isGood_ok G M6) rfl (by decide) dX12_readRate_29 lkm_X12_271 cal_X12_isGood cM_0 rfl rfl (Nat.le_of_ble_eq_true rfl) rfl) ?_
  refine r_ifz_ne (tgt := 36) dX12_readRate_32 rfl (fun h7 => ?_) (fun h7 => ?_)
  · refine r_aload_n dX12_readRate_36 rfl ?_
    refine c_OI rfl (inv_V (mi := mi_X12_readRate) (b := 0) (rest := []) (X12_kindHere_ok G M6) rfl (by decide) dX12_readRate_37 lkm_X12_310 cal_X12_kindHere cM_0 rfl rfl (Nat.le_of_ble_eq_true rfl) rfl) (fun v8 => ?_)
    refine r_istore_n (lv' := [some (.ref (G.2.2.2 (0))), some (.int v2), some (.int v4), some (.int v8), none]) dX12_readRate_40 (Nat.le_of_ble_eq_true rfl) rfl rfl ?_
    refine r_iload_n dX12_readRate_41 rfl ?_
    refine r_jB1 (j := 80) (lvj := fun M16 => [some (.ref (G.2.2.2 (0))), some (.int v2), some (.int v4), some (.int v8), none]) (stj := fun M16 => []) (Mj := fun M16 => M16) (fun M16 => ?_) (fun hj80 => ?_)
    · refine r_aload_n dX12_readRate_80 rfl ?_
      refine r_iload_n dX12_readRate_81 rfl ?_
      refine c_OIM rfl (inv_V (mi := mi_X12_readRate) (b := 0) (rest := []) (X12_known_ok G v8 M16) rfl (by decide) dX12_readRate_82 lkm_X12_349 cal_X12_known cM_0 rfl rfl (Nat.le_of_ble_eq_true rfl) rfl) (fun v17 M18 => ?_)
      refine r_istore_n (lv' := [some (.ref (G.2.2.2 (0))), some (.int v2), some (.int v4), some (.int v17), none]) dX12_readRate_85 (Nat.le_of_ble_eq_true rfl) rfl rfl ?_
      refine r_aload_n dX12_readRate_86 rfl ?_
      refine r_iconst (x := 1) dX12_readRate_87 rfl ?_
      refine r_bipush (x := 9) dX12_readRate_88 rfl ?_
      refine c_OIM rfl (inv_V (mi := mi_X12_readRate) (b := 0) (rest := []) (X12_numeral_ok G 1 9 M18) rfl (by decide) dX12_readRate_90 lkm_X12_288 cal_X12_numeral cM_0 rfl rfl (Nat.le_of_ble_eq_true rfl) rfl) (fun v19 M20 => ?_)
      refine r_istore (lv' := [some (.ref (G.2.2.2 (0))), some (.int v2), some (.int v4), some (.int v17), some (.int v19)]) dX12_readRate_93 (Nat.le_of_ble_eq_true rfl) rfl rfl ?_
      refine r_aload_n dX12_readRate_95 rfl ?_
      refine c_Z (inv_V (mi := mi_X12_readRate) (b := 0) (rest := []) (X12_isGood_ok G M20) rfl (by decide) dX12_readRate_96 lkm_X12_271 cal_X12_isGood cM_0 rfl rfl (Nat.le_of_ble_eq_true rfl) rfl) ?_
      refine r_ifz_ne (tgt := 103) dX12_readRate_99 rfl (fun h21 => ?_) (fun h21 => ?_)
      · refine r_aload_n dX12_readRate_103 rfl ?_
        refine r_getf (v := .ref (G.2.2.2 (18))) dX12_readRate_104 fM_0_26 kX12 (by decide) lkf_X12_66 rfl ?_
        refine r_bipush (x := 9) dX12_readRate_107 rfl ?_
        refine r_aload_n dX12_readRate_109 rfl ?_
        refine r_getf (v := .int (M20.1 0 42)) dX12_readRate_110 fM_0_42 kX12 (by decide) lkf_X12_292 rfl ?_
        refine r_imul dX12_readRate_113 ?_
        refine r_iconst (x := 3) dX12_readRate_114 rfl ?_
        refine r_iload_n dX12_readRate_115 rfl ?_
        refine r_imul dX12_readRate_116 ?_
        refine r_iadd dX12_readRate_117 ?_
        refine r_iload_n dX12_readRate_118 rfl ?_
        refine r_iadd dX12_readRate_119 ?_
        refine r_iload_n dX12_readRate_120 rfl ?_
        refine r_gd rfl (fun g22 => ?_)
        refine r_iast dX12_readRate_121 aM_18 (inb_in g22) rfl (fun M23 => ?_)
        refine r_aload_n dX12_readRate_122 rfl ?_
        refine r_getf (v := .ref (G.2.2.2 (19))) dX12_readRate_123 fM_0_27 kX12 (by decide) lkf_X12_69 rfl ?_
        refine r_bipush (x := 9) dX12_readRate_126 rfl ?_
        refine r_aload_n dX12_readRate_128 rfl ?_
        refine r_getf (v := .int (M23.1 0 42)) dX12_readRate_129 fM_0_42 kX12 (by decide) lkf_X12_292 rfl ?_
        refine r_imul dX12_readRate_132 ?_
        refine r_iconst (x := 3) dX12_readRate_133 rfl ?_
        refine r_iload_n dX12_readRate_134 rfl ?_
        refine r_imul dX12_readRate_135 ?_
        refine r_iadd dX12_readRate_136 ?_
        refine r_iload_n dX12_readRate_137 rfl ?_
        refine r_iadd dX12_readRate_138 ?_
        refine r_iload dX12_readRate_139 rfl ?_
        refine r_gd rfl (fun g24 => ?_)
        refine r_iast dX12_readRate_141 aM_19 (inb_in g24) rfl (fun M25 => ?_)
        refine r_aload_n dX12_readRate_142 rfl ?_
        refine r_getf (v := .ref (G.2.2.2 (6))) dX12_readRate_143 fM_0_14 kX12 (by decide) lkf_X12_30 rfl ?_
        refine r_aload_n dX12_readRate_146 rfl ?_
        refine r_getf (v := .int (M25.1 0 42)) dX12_readRate_147 fM_0_42 kX12 (by decide) lkf_X12_292 rfl ?_
        refine r_dup2 dX12_readRate_150 rfl rfl ?_
        refine r_gd rfl (fun g26 => ?_)
        refine r_iald dX12_readRate_151 aM_6 (inb_in g26) rfl ?_
        refine r_iconst (x := 1) dX12_readRate_152 rfl ?_
        refine r_iadd dX12_readRate_153 ?_
        refine r_iast dX12_readRate_154 aM_6 (inb_in g26) rfl (fun M27 => ?_)
        exact r_vret dX12_readRate_155 rfl rfl
      exact r_vret dX12_readRate_102 rfl rfl
    refine r_cB (jX := 71) (jY := 80) (lvX := [some (.ref (G.2.2.2 (0))), some (.int v2), some (.int v4), some (.int v8), none]) (lvY := [some (.ref (G.2.2.2 (0))), some (.int v2), some (.int v4), some (.int v8), none]) (stX := []) (M1 := M6) (fun h14 => ?_) (fun h14 => ?_) (fun hX71 hY80 => ?_)
    · refine r_eq (if_pos rfl) ?_
      refine r_aload_n dX12_readRate_71 rfl ?_
      refine r_iconst (x := 3) dX12_readRate_72 rfl ?_
      refine r_aload_n dX12_readRate_73 rfl ?_
      refine r_getf (v := .int (M6.1 0 6)) dX12_readRate_74 fM_0_6 kX12 (by decide) lkf_X12_236 rfl ?_
      refine c_V (inv_V (mi := mi_X12_readRate) (b := 0) (rest := []) (X12_fails_ok G 3 (M6.1 0 6) M6) rfl (by decide) dX12_readRate_77 lkm_X12_267 cal_X12_fails cM_0 rfl rfl (Nat.le_of_ble_eq_true rfl) rfl) (fun M15 => ?_)
      exact r_lk (hj80 M15) (And.intro rfl (And.intro rfl (And.intro rfl (And.intro rfl True.intro))))
    · refine r_eq (if_neg (by decide)) ?_
      exact r_lk (hj80 M6) (And.intro rfl (And.intro rfl (And.intro rfl (And.intro rfl True.intro))))
    refine r_if_lt (tgt := 80) dX12_readRate_42 rfl (fun h9 => ?_) (fun h9 => ?_)
    · exact r_lk hY80 (And.intro rfl (And.intro rfl (And.intro rfl (And.intro rfl True.intro))))
    refine r_iload_n dX12_readRate_45 rfl ?_
    refine r_iload_n dX12_readRate_46 rfl ?_
    refine r_icmp_eq (tgt := 71) dX12_readRate_47 rfl (fun h10 => ?_) (fun h10 => ?_)
    · exact r_lk hX71 (And.intro rfl (And.intro rfl (And.intro rfl (And.intro rfl True.intro))))
    refine r_aload_n dX12_readRate_50 rfl ?_
    refine r_getf (v := .ref (G.2.2.2 (18))) dX12_readRate_51 fM_0_26 kX12 (by decide) lkf_X12_66 rfl ?_
    refine r_bipush (x := 9) dX12_readRate_54 rfl ?_
    refine r_aload_n dX12_readRate_56 rfl ?_
    refine r_getf (v := .int (M6.1 0 42)) dX12_readRate_57 fM_0_42 kX12 (by decide) lkf_X12_292 rfl ?_
    refine r_imul dX12_readRate_60 ?_
    refine r_iconst (x := 3) dX12_readRate_61 rfl ?_
    refine r_iload_n dX12_readRate_62 rfl ?_
    refine r_imul dX12_readRate_63 ?_
    refine r_iadd dX12_readRate_64 ?_
    refine r_iload_n dX12_readRate_65 rfl ?_
    refine r_iadd dX12_readRate_66 ?_
    refine r_gd rfl (fun g11 => ?_)
    refine r_iald dX12_readRate_67 aM_18 (inb_in g11) rfl ?_
    refine r_if_le (tgt := 80) dX12_readRate_68 rfl (fun h12 => ?_) (fun h12 => ?_)
    · exact r_lk hY80 (And.intro rfl (And.intro rfl (And.intro rfl (And.intro rfl True.intro))))
    exact r_lk hX71 (And.intro rfl (And.intro rfl (And.intro rfl (And.intro rfl True.intro))))
  exact r_vret dX12_readRate_35 rfl rfl

theorem dX12_pushE_0 : decode cX12_pushE 0 = .ok (.aload_n 0, 1) := by decide +kernel
theorem dX12_pushE_1 : decode cX12_pushE 1 = .ok (.getfield 104, 3) := by decide +kernel
theorem dX12_pushE_4 : decode cX12_pushE 4 = .ok (.aload_n 0, 1) := by decide +kernel
theorem dX12_pushE_5 : decode cX12_pushE 5 = .ok (.getfield 358, 3) := by decide +kernel
theorem dX12_pushE_8 : decode cX12_pushE 8 = .ok (.iload_n 1, 1) := by decide +kernel
theorem dX12_pushE_9 : decode cX12_pushE 9 = .ok (.iastore, 1) := by decide +kernel
theorem dX12_pushE_10 : decode cX12_pushE 10 = .ok (.aload_n 0, 1) := by decide +kernel
theorem dX12_pushE_11 : decode cX12_pushE 11 = .ok (.getfield 107, 3) := by decide +kernel
theorem dX12_pushE_14 : decode cX12_pushE 14 = .ok (.aload_n 0, 1) := by decide +kernel
theorem dX12_pushE_15 : decode cX12_pushE 15 = .ok (.getfield 358, 3) := by decide +kernel
theorem dX12_pushE_18 : decode cX12_pushE 18 = .ok (.iload_n 2, 1) := by decide +kernel
theorem dX12_pushE_19 : decode cX12_pushE 19 = .ok (.iastore, 1) := by decide +kernel
theorem dX12_pushE_20 : decode cX12_pushE 20 = .ok (.aload_n 0, 1) := by decide +kernel
theorem dX12_pushE_21 : decode cX12_pushE 21 = .ok (.dup, 1) := by decide +kernel
theorem dX12_pushE_22 : decode cX12_pushE 22 = .ok (.getfield 358, 3) := by decide +kernel
theorem dX12_pushE_25 : decode cX12_pushE 25 = .ok (.iconst 1, 1) := by decide +kernel
theorem dX12_pushE_26 : decode cX12_pushE 26 = .ok (.iadd, 1) := by decide +kernel
theorem dX12_pushE_27 : decode cX12_pushE 27 = .ok (.putfield 358, 3) := by decide +kernel
theorem dX12_pushE_30 : decode cX12_pushE 30 = .ok (.return_, 1) := by decide +kernel
abbrev mi_X12_pushE : MI := (zTM, RX12, yX12_pushE, cX12_pushE, 3, none, 2)
theorem cal_X12_pushE : zCalV mi_X12_pushE 2 := ⟨⟨zTB_i8 6 (by decide +kernel), zTB_i8 5 (by decide +kernel), zTB_i0 70 (by decide +kernel), zTB_i1 13 (by decide +kernel)⟩, ⟨by decide, by decide, by decide +kernel⟩, by decide⟩
noncomputable def X12_pushE (x1 : Int32) (x2 : Int32) (M : Mem) : Option (Mem) :=
  gd_ (inb (M.1 0 45) (90) = true) (
  lt_ (uI M 30 ((M.1 0 45).toNatClampNeg) x1) fun M2 =>
  gd_ (inb (M2.1 0 45) (90) = true) (
  lt_ (uI M2 31 ((M2.1 0 45).toNatClampNeg) x2) fun M4 =>
  lt_ (uI M4 0 45 ((M4.1 0 45) + 1)) fun M5 =>
  some M5))
set_option maxRecDepth 100000 in
set_option maxHeartbeats 4000000 in
theorem X12_pushE_ok (G : Gh) (x1 : Int32) (x2 : Int32) (M : Mem) : Mt G mi_X12_pushE [.ref (G.2.2.2 (0)), .int x1, .int x2] M ((dO dV) (X12_pushE x1 x2 M)) := by
  refine Mt_of (lv := [some (.ref (G.2.2.2 (0))), some (.int x1), some (.int x2)]) (by decide) rfl (Nat.le_of_ble_eq_true rfl) rfl ?_
  unfold X12_pushE
  refine r_aload_n dX12_pushE_0 rfl ?_
  refine r_getf (v := .ref (G.2.2.2 (30))) dX12_pushE_1 fM_0_38 kX12 (by decide) lkf_X12_104 rfl ?_
  refine r_aload_n dX12_pushE_4 rfl ?_
  refine r_getf (v := .int (M.1 0 45)) dX12_pushE_5 fM_0_45 kX12 (by decide) lkf_X12_358 rfl ?_
  refine r_iload_n dX12_pushE_8 rfl ?_
  refine r_gd rfl (fun g1 => ?_)
  refine r_iast dX12_pushE_9 aM_30 (inb_in g1) rfl (fun M2 => ?_)
  refine r_aload_n dX12_pushE_10 rfl ?_
  refine r_getf (v := .ref (G.2.2.2 (31))) dX12_pushE_11 fM_0_39 kX12 (by decide) lkf_X12_107 rfl ?_
  refine r_aload_n dX12_pushE_14 rfl ?_
  refine r_getf (v := .int (M2.1 0 45)) dX12_pushE_15 fM_0_45 kX12 (by decide) lkf_X12_358 rfl ?_
  refine r_iload_n dX12_pushE_18 rfl ?_
  refine r_gd rfl (fun g3 => ?_)
  refine r_iast dX12_pushE_19 aM_31 (inb_in g3) rfl (fun M4 => ?_)
  refine r_aload_n dX12_pushE_20 rfl ?_
  refine r_dup dX12_pushE_21 rfl ?_
  refine r_getf (v := .int (M4.1 0 45)) dX12_pushE_22 fM_0_45 kX12 (by decide) lkf_X12_358 rfl ?_
  refine r_iconst (x := 1) dX12_pushE_25 rfl ?_
  refine r_iadd dX12_pushE_26 ?_
  refine r_putI dX12_pushE_27 fM_0_45 kX12 (by decide) rfl rfl lkf_X12_358 (fun _ => rfl) rfl rfl (fun M5 => ?_)
  exact r_vret dX12_pushE_30 rfl rfl

theorem dX12_isSignHere_0 : decode cX12_isSignHere 0 = .ok (.aload_n 0, 1) := by decide +kernel
theorem dX12_isSignHere_1 : decode cX12_isSignHere 1 = .ok (.getfield 243, 3) := by decide +kernel
theorem dX12_isSignHere_4 : decode cX12_isSignHere 4 = .ok (.iconst 5, 1) := by decide +kernel
theorem dX12_isSignHere_5 : decode cX12_isSignHere 5 = .ok (.if_icmp .ne 19, 3) := by decide +kernel
theorem dX12_isSignHere_8 : decode cX12_isSignHere 8 = .ok (.aload_n 0, 1) := by decide +kernel
theorem dX12_isSignHere_9 : decode cX12_isSignHere 9 = .ok (.aload_n 0, 1) := by decide +kernel
theorem dX12_isSignHere_10 : decode cX12_isSignHere 10 = .ok (.getfield 236, 3) := by decide +kernel
theorem dX12_isSignHere_13 : decode cX12_isSignHere 13 = .ok (.invokevirtual 239, 3) := by decide +kernel
theorem dX12_isSignHere_16 : decode cX12_isSignHere 16 = .ok (.iload_n 1, 1) := by decide +kernel
theorem dX12_isSignHere_17 : decode cX12_isSignHere 17 = .ok (.if_icmp .ne 7, 3) := by decide +kernel
theorem dX12_isSignHere_20 : decode cX12_isSignHere 20 = .ok (.iconst 1, 1) := by decide +kernel
theorem dX12_isSignHere_21 : decode cX12_isSignHere 21 = .ok (.goto 4, 3) := by decide +kernel
theorem dX12_isSignHere_24 : decode cX12_isSignHere 24 = .ok (.iconst 0, 1) := by decide +kernel
theorem dX12_isSignHere_25 : decode cX12_isSignHere 25 = .ok (.ireturn, 1) := by decide +kernel
abbrev mi_X12_isSignHere : MI := (zTM, RX12, yX12_isSignHere, cX12_isSignHere, 2, (some .boolean), 3)
theorem cal_X12_isSignHere : zCalV mi_X12_isSignHere 1 := ⟨⟨zTB_i8 14 (by decide +kernel), zTB_i8 13 (by decide +kernel), zTB_i0 72 (by decide +kernel), zTB_i1 13 (by decide +kernel)⟩, ⟨by decide, by decide, by decide +kernel⟩, by decide⟩
noncomputable def X12_isSignHere (x1 : Int32) (M : Mem) : Option (Bool) :=
  if (M.1 0 8) = 5 then
    bo_ (X12_sign (M.1 0 6) M) fun v2 =>
    if v2 = x1 then
      some true
    else
    some false
  else
  some false
set_option maxRecDepth 100000 in
set_option maxHeartbeats 4000000 in
theorem X12_isSignHere_ok (G : Gh) (x1 : Int32) (M : Mem) : Mt G mi_X12_isSignHere [.ref (G.2.2.2 (0)), .int x1] M ((dO (dZ M)) (X12_isSignHere x1 M)) := by
  refine Mt_of (lv := [some (.ref (G.2.2.2 (0))), some (.int x1)]) (by decide) rfl (Nat.le_of_ble_eq_true rfl) rfl ?_
  unfold X12_isSignHere
  refine r_aload_n dX12_isSignHere_0 rfl ?_
  refine r_getf (v := .int (M.1 0 8)) dX12_isSignHere_1 fM_0_8 kX12 (by decide) lkf_X12_243 rfl ?_
  refine r_iconst (x := 5) dX12_isSignHere_4 rfl ?_
  refine r_icmp_ne (tgt := 24) dX12_isSignHere_5 rfl (fun h1 => ?_) (fun h1 => ?_)
  · refine r_aload_n dX12_isSignHere_8 rfl ?_
    refine r_aload_n dX12_isSignHere_9 rfl ?_
    refine r_getf (v := .int (M.1 0 6)) dX12_isSignHere_10 fM_0_6 kX12 (by decide) lkf_X12_236 rfl ?_
    refine c_OI rfl (inv_V (mi := mi_X12_isSignHere) (b := 0) (rest := []) (X12_sign_ok G (M.1 0 6) M) rfl (by decide) dX12_isSignHere_13 lkm_X12_239 cal_X12_sign cM_0 rfl rfl (Nat.le_of_ble_eq_true rfl) rfl) (fun v2 => ?_)
    refine r_iload_n dX12_isSignHere_16 rfl ?_
    refine r_icmp_ne (tgt := 24) dX12_isSignHere_17 rfl (fun h3 => ?_) (fun h3 => ?_)
    · refine r_iconst (x := 1) dX12_isSignHere_20 rfl ?_
      refine r_goto (tgt := 25) dX12_isSignHere_21 rfl ?_
      exact r_iret (ty := .boolean) dX12_isSignHere_25 rfl rfl rfl
    refine r_iconst (x := 0) dX12_isSignHere_24 rfl ?_
    exact r_iret (ty := .boolean) dX12_isSignHere_25 rfl rfl rfl
  refine r_iconst (x := 0) dX12_isSignHere_24 rfl ?_
  exact r_iret (ty := .boolean) dX12_isSignHere_25 rfl rfl rfl

theorem dX12_wordHere_0 : decode cX12_wordHere 0 = .ok (.aload_n 0, 1) := by decide +kernel
theorem dX12_wordHere_1 : decode cX12_wordHere 1 = .ok (.ldc2_w 217, 3) := by decide +kernel
theorem dX12_wordHere_4 : decode cX12_wordHere 4 = .ok (.invokevirtual 281, 3) := by decide +kernel
theorem dX12_wordHere_7 : decode cX12_wordHere 7 = .ok (.ifCond .eq 6, 3) := by decide +kernel
theorem dX12_wordHere_10 : decode cX12_wordHere 10 = .ok (.bipush 102, 2) := by decide +kernel
theorem dX12_wordHere_12 : decode cX12_wordHere 12 = .ok (.ireturn, 1) := by decide +kernel
theorem dX12_wordHere_13 : decode cX12_wordHere 13 = .ok (.aload_n 0, 1) := by decide +kernel
theorem dX12_wordHere_14 : decode cX12_wordHere 14 = .ok (.ldc2_w 219, 3) := by decide +kernel
theorem dX12_wordHere_17 : decode cX12_wordHere 17 = .ok (.invokevirtual 281, 3) := by decide +kernel
theorem dX12_wordHere_20 : decode cX12_wordHere 20 = .ok (.ifCond .eq 6, 3) := by decide +kernel
theorem dX12_wordHere_23 : decode cX12_wordHere 23 = .ok (.bipush 115, 2) := by decide +kernel
theorem dX12_wordHere_25 : decode cX12_wordHere 25 = .ok (.ireturn, 1) := by decide +kernel
theorem dX12_wordHere_26 : decode cX12_wordHere 26 = .ok (.aload_n 0, 1) := by decide +kernel
theorem dX12_wordHere_27 : decode cX12_wordHere 27 = .ok (.ldc2_w 221, 3) := by decide +kernel
theorem dX12_wordHere_30 : decode cX12_wordHere 30 = .ok (.invokevirtual 281, 3) := by decide +kernel
theorem dX12_wordHere_33 : decode cX12_wordHere 33 = .ok (.ifCond .eq 6, 3) := by decide +kernel
theorem dX12_wordHere_36 : decode cX12_wordHere 36 = .ok (.bipush 116, 2) := by decide +kernel
theorem dX12_wordHere_38 : decode cX12_wordHere 38 = .ok (.ireturn, 1) := by decide +kernel
theorem dX12_wordHere_39 : decode cX12_wordHere 39 = .ok (.aload_n 0, 1) := by decide +kernel
theorem dX12_wordHere_40 : decode cX12_wordHere 40 = .ok (.ldc2_w 195, 3) := by decide +kernel
theorem dX12_wordHere_43 : decode cX12_wordHere 43 = .ok (.invokevirtual 281, 3) := by decide +kernel
theorem dX12_wordHere_46 : decode cX12_wordHere 46 = .ok (.ifCond .eq 6, 3) := by decide +kernel
theorem dX12_wordHere_49 : decode cX12_wordHere 49 = .ok (.bipush 99, 2) := by decide +kernel
theorem dX12_wordHere_51 : decode cX12_wordHere 51 = .ok (.ireturn, 1) := by decide +kernel
theorem dX12_wordHere_52 : decode cX12_wordHere 52 = .ok (.aload_n 0, 1) := by decide +kernel
theorem dX12_wordHere_53 : decode cX12_wordHere 53 = .ok (.ldc2_w 223, 3) := by decide +kernel
theorem dX12_wordHere_56 : decode cX12_wordHere 56 = .ok (.invokevirtual 281, 3) := by decide +kernel
theorem dX12_wordHere_59 : decode cX12_wordHere 59 = .ok (.ifCond .eq 6, 3) := by decide +kernel
theorem dX12_wordHere_62 : decode cX12_wordHere 62 = .ok (.bipush 119, 2) := by decide +kernel
theorem dX12_wordHere_64 : decode cX12_wordHere 64 = .ok (.ireturn, 1) := by decide +kernel
theorem dX12_wordHere_65 : decode cX12_wordHere 65 = .ok (.aload_n 0, 1) := by decide +kernel
theorem dX12_wordHere_66 : decode cX12_wordHere 66 = .ok (.ldc2_w 225, 3) := by decide +kernel
theorem dX12_wordHere_69 : decode cX12_wordHere 69 = .ok (.invokevirtual 281, 3) := by decide +kernel
theorem dX12_wordHere_72 : decode cX12_wordHere 72 = .ok (.ifCond .eq 8, 3) := by decide +kernel
theorem dX12_wordHere_75 : decode cX12_wordHere 75 = .ok (.bipush 112, 2) := by decide +kernel
theorem dX12_wordHere_77 : decode cX12_wordHere 77 = .ok (.goto 4, 3) := by decide +kernel
theorem dX12_wordHere_80 : decode cX12_wordHere 80 = .ok (.iconst 0, 1) := by decide +kernel
theorem dX12_wordHere_81 : decode cX12_wordHere 81 = .ok (.ireturn, 1) := by decide +kernel
abbrev mi_X12_wordHere : MI := (zTM, RX12, yX12_wordHere, cX12_wordHere, 1, (some .int), 3)
theorem cal_X12_wordHere : zCalV mi_X12_wordHere 0 := ⟨⟨zTB_i8 18 (by decide +kernel), zTB_i8 17 (by decide +kernel), zTB_i0 73 (by decide +kernel), zTB_i1 13 (by decide +kernel)⟩, ⟨by decide, by decide, by decide +kernel⟩, by decide⟩
noncomputable def X12_wordHere (M : Mem) : Int32 :=
  if (X12_isWord 439855772532 M) = true then
    102
  else
  if (X12_isWord 126879297138276 M) = true then
    115
  else
  if (X12_isWord 499967947364 M) = true then
    116
  else
  if (X12_isWord 1668444016 M) = true then
    99
  else
  if (X12_isWord 2003133803 M) = true then
    119
  else
  if (X12_isWord 1886154612 M) = true then
    112
  else
  0
set_option maxRecDepth 100000 in
set_option maxHeartbeats 4000000 in
theorem X12_wordHere_ok (G : Gh) (M : Mem) : Mt G mi_X12_wordHere [.ref (G.2.2.2 (0))] M ((dI M) (X12_wordHere M)) := by
  refine Mt_of (lv := [some (.ref (G.2.2.2 (0)))]) (by decide) rfl (Nat.le_of_ble_eq_true rfl) rfl ?_
  unfold X12_wordHere
  refine r_aload_n dX12_wordHere_0 rfl ?_
  refine r_ldc2 (x := 439855772532) dX12_wordHere_1 lkc_X12_217 ?_
  refine c_Z (inv_V (mi := mi_X12_wordHere) (b := 0) (rest := []) (X12_isWord_ok G 439855772532 M) rfl (by decide) dX12_wordHere_4 lkm_X12_281 cal_X12_isWord cM_0 rfl rfl (Nat.le_of_ble_eq_true rfl) rfl) ?_
  refine r_ifz_eq (tgt := 13) dX12_wordHere_7 rfl (fun h1 => ?_) (fun h1 => ?_)
  · refine r_bipush (x := 102) dX12_wordHere_10 rfl ?_
    exact r_iret (ty := .int) dX12_wordHere_12 rfl rfl rfl
  refine r_aload_n dX12_wordHere_13 rfl ?_
  refine r_ldc2 (x := 126879297138276) dX12_wordHere_14 lkc_X12_219 ?_
  refine c_Z (inv_V (mi := mi_X12_wordHere) (b := 0) (rest := []) (X12_isWord_ok G 126879297138276 M) rfl (by decide) dX12_wordHere_17 lkm_X12_281 cal_X12_isWord cM_0 rfl rfl (Nat.le_of_ble_eq_true rfl) rfl) ?_
  refine r_ifz_eq (tgt := 26) dX12_wordHere_20 rfl (fun h2 => ?_) (fun h2 => ?_)
  · refine r_bipush (x := 115) dX12_wordHere_23 rfl ?_
    exact r_iret (ty := .int) dX12_wordHere_25 rfl rfl rfl
  refine r_aload_n dX12_wordHere_26 rfl ?_
  refine r_ldc2 (x := 499967947364) dX12_wordHere_27 lkc_X12_221 ?_
  refine c_Z (inv_V (mi := mi_X12_wordHere) (b := 0) (rest := []) (X12_isWord_ok G 499967947364 M) rfl (by decide) dX12_wordHere_30 lkm_X12_281 cal_X12_isWord cM_0 rfl rfl (Nat.le_of_ble_eq_true rfl) rfl) ?_
  refine r_ifz_eq (tgt := 39) dX12_wordHere_33 rfl (fun h3 => ?_) (fun h3 => ?_)
  · refine r_bipush (x := 116) dX12_wordHere_36 rfl ?_
    exact r_iret (ty := .int) dX12_wordHere_38 rfl rfl rfl
  refine r_aload_n dX12_wordHere_39 rfl ?_
  refine r_ldc2 (x := 1668444016) dX12_wordHere_40 lkc_X12_195 ?_
  refine c_Z (inv_V (mi := mi_X12_wordHere) (b := 0) (rest := []) (X12_isWord_ok G 1668444016 M) rfl (by decide) dX12_wordHere_43 lkm_X12_281 cal_X12_isWord cM_0 rfl rfl (Nat.le_of_ble_eq_true rfl) rfl) ?_
  refine r_ifz_eq (tgt := 52) dX12_wordHere_46 rfl (fun h4 => ?_) (fun h4 => ?_)
  · refine r_bipush (x := 99) dX12_wordHere_49 rfl ?_
    exact r_iret (ty := .int) dX12_wordHere_51 rfl rfl rfl
  refine r_aload_n dX12_wordHere_52 rfl ?_
  refine r_ldc2 (x := 2003133803) dX12_wordHere_53 lkc_X12_223 ?_
  refine c_Z (inv_V (mi := mi_X12_wordHere) (b := 0) (rest := []) (X12_isWord_ok G 2003133803 M) rfl (by decide) dX12_wordHere_56 lkm_X12_281 cal_X12_isWord cM_0 rfl rfl (Nat.le_of_ble_eq_true rfl) rfl) ?_
  refine r_ifz_eq (tgt := 65) dX12_wordHere_59 rfl (fun h5 => ?_) (fun h5 => ?_)
  · refine r_bipush (x := 119) dX12_wordHere_62 rfl ?_
    exact r_iret (ty := .int) dX12_wordHere_64 rfl rfl rfl
  refine r_aload_n dX12_wordHere_65 rfl ?_
  refine r_ldc2 (x := 1886154612) dX12_wordHere_66 lkc_X12_225 ?_
  refine c_Z (inv_V (mi := mi_X12_wordHere) (b := 0) (rest := []) (X12_isWord_ok G 1886154612 M) rfl (by decide) dX12_wordHere_69 lkm_X12_281 cal_X12_isWord cM_0 rfl rfl (Nat.le_of_ble_eq_true rfl) rfl) ?_
  refine r_ifz_eq (tgt := 80) dX12_wordHere_72 rfl (fun h6 => ?_) (fun h6 => ?_)
  · refine r_bipush (x := 112) dX12_wordHere_75 rfl ?_
    refine r_goto (tgt := 81) dX12_wordHere_77 rfl ?_
    exact r_iret (ty := .int) dX12_wordHere_81 rfl rfl rfl
  refine r_iconst (x := 0) dX12_wordHere_80 rfl ?_
  exact r_iret (ty := .int) dX12_wordHere_81 rfl rfl rfl

theorem dX12_emit_0 : decode cX12_emit 0 = .ok (.aload_n 0, 1) := by decide +kernel
theorem dX12_emit_1 : decode cX12_emit 1 = .ok (.getfield 98, 3) := by decide +kernel
theorem dX12_emit_4 : decode cX12_emit 4 = .ok (.aload_n 0, 1) := by decide +kernel
theorem dX12_emit_5 : decode cX12_emit 5 = .ok (.getfield 295, 3) := by decide +kernel
theorem dX12_emit_8 : decode cX12_emit 8 = .ok (.iload_n 1, 1) := by decide +kernel
theorem dX12_emit_9 : decode cX12_emit 9 = .ok (.iastore, 1) := by decide +kernel
theorem dX12_emit_10 : decode cX12_emit 10 = .ok (.aload_n 0, 1) := by decide +kernel
theorem dX12_emit_11 : decode cX12_emit 11 = .ok (.getfield 101, 3) := by decide +kernel
theorem dX12_emit_14 : decode cX12_emit 14 = .ok (.aload_n 0, 1) := by decide +kernel
theorem dX12_emit_15 : decode cX12_emit 15 = .ok (.getfield 295, 3) := by decide +kernel
theorem dX12_emit_18 : decode cX12_emit 18 = .ok (.iload_n 2, 1) := by decide +kernel
theorem dX12_emit_19 : decode cX12_emit 19 = .ok (.iastore, 1) := by decide +kernel
theorem dX12_emit_20 : decode cX12_emit 20 = .ok (.aload_n 0, 1) := by decide +kernel
theorem dX12_emit_21 : decode cX12_emit 21 = .ok (.dup, 1) := by decide +kernel
theorem dX12_emit_22 : decode cX12_emit 22 = .ok (.getfield 295, 3) := by decide +kernel
theorem dX12_emit_25 : decode cX12_emit 25 = .ok (.iconst 1, 1) := by decide +kernel
theorem dX12_emit_26 : decode cX12_emit 26 = .ok (.iadd, 1) := by decide +kernel
theorem dX12_emit_27 : decode cX12_emit 27 = .ok (.putfield 295, 3) := by decide +kernel
theorem dX12_emit_30 : decode cX12_emit 30 = .ok (.return_, 1) := by decide +kernel
abbrev mi_X12_emit : MI := (zTM, RX12, yX12_emit, cX12_emit, 3, none, 2)
theorem cal_X12_emit : zCalV mi_X12_emit 2 := ⟨⟨zTB_i8 22 (by decide +kernel), zTB_i8 21 (by decide +kernel), zTB_i0 74 (by decide +kernel), zTB_i1 13 (by decide +kernel)⟩, ⟨by decide, by decide, by decide +kernel⟩, by decide⟩
noncomputable def X12_emit (x1 : Int32) (x2 : Int32) (M : Mem) : Option (Mem) :=
  gd_ (inb (M.1 0 43) (1120) = true) (
  lt_ (uI M 28 ((M.1 0 43).toNatClampNeg) x1) fun M2 =>
  gd_ (inb (M2.1 0 43) (1120) = true) (
  lt_ (uI M2 29 ((M2.1 0 43).toNatClampNeg) x2) fun M4 =>
  lt_ (uI M4 0 43 ((M4.1 0 43) + 1)) fun M5 =>
  some M5))
set_option maxRecDepth 100000 in
set_option maxHeartbeats 4000000 in
theorem X12_emit_ok (G : Gh) (x1 : Int32) (x2 : Int32) (M : Mem) : Mt G mi_X12_emit [.ref (G.2.2.2 (0)), .int x1, .int x2] M ((dO dV) (X12_emit x1 x2 M)) := by
  refine Mt_of (lv := [some (.ref (G.2.2.2 (0))), some (.int x1), some (.int x2)]) (by decide) rfl (Nat.le_of_ble_eq_true rfl) rfl ?_
  unfold X12_emit
  refine r_aload_n dX12_emit_0 rfl ?_
  refine r_getf (v := .ref (G.2.2.2 (28))) dX12_emit_1 fM_0_36 kX12 (by decide) lkf_X12_98 rfl ?_
  refine r_aload_n dX12_emit_4 rfl ?_
  refine r_getf (v := .int (M.1 0 43)) dX12_emit_5 fM_0_43 kX12 (by decide) lkf_X12_295 rfl ?_
  refine r_iload_n dX12_emit_8 rfl ?_
  refine r_gd rfl (fun g1 => ?_)
  refine r_iast dX12_emit_9 aM_28 (inb_in g1) rfl (fun M2 => ?_)
  refine r_aload_n dX12_emit_10 rfl ?_
  refine r_getf (v := .ref (G.2.2.2 (29))) dX12_emit_11 fM_0_37 kX12 (by decide) lkf_X12_101 rfl ?_
  refine r_aload_n dX12_emit_14 rfl ?_
  refine r_getf (v := .int (M2.1 0 43)) dX12_emit_15 fM_0_43 kX12 (by decide) lkf_X12_295 rfl ?_
  refine r_iload_n dX12_emit_18 rfl ?_
  refine r_gd rfl (fun g3 => ?_)
  refine r_iast dX12_emit_19 aM_29 (inb_in g3) rfl (fun M4 => ?_)
  refine r_aload_n dX12_emit_20 rfl ?_
  refine r_dup dX12_emit_21 rfl ?_
  refine r_getf (v := .int (M4.1 0 43)) dX12_emit_22 fM_0_43 kX12 (by decide) lkf_X12_295 rfl ?_
  refine r_iconst (x := 1) dX12_emit_25 rfl ?_
  refine r_iadd dX12_emit_26 ?_
  refine r_putI dX12_emit_27 fM_0_43 kX12 (by decide) rfl rfl lkf_X12_295 (fun _ => rfl) rfl rfl (fun M5 => ?_)
  exact r_vret dX12_emit_30 rfl rfl

theorem dX12_unit_0 : decode cX12_unit 0 = .ok (.aload_n 0, 1) := by decide +kernel
theorem dX12_unit_1 : decode cX12_unit 1 = .ok (.getfield 104, 3) := by decide +kernel
theorem dX12_unit_4 : decode cX12_unit 4 = .ok (.aload_n 0, 1) := by decide +kernel
theorem dX12_unit_5 : decode cX12_unit 5 = .ok (.getfield 358, 3) := by decide +kernel
theorem dX12_unit_8 : decode cX12_unit 8 = .ok (.iconst 1, 1) := by decide +kernel
theorem dX12_unit_9 : decode cX12_unit 9 = .ok (.isub, 1) := by decide +kernel
theorem dX12_unit_10 : decode cX12_unit 10 = .ok (.iaload, 1) := by decide +kernel
theorem dX12_unit_11 : decode cX12_unit 11 = .ok (.iconst 3, 1) := by decide +kernel
theorem dX12_unit_12 : decode cX12_unit 12 = .ok (.if_icmp .le 19, 3) := by decide +kernel
theorem dX12_unit_15 : decode cX12_unit 15 = .ok (.aload_n 0, 1) := by decide +kernel
theorem dX12_unit_16 : decode cX12_unit 16 = .ok (.getfield 104, 3) := by decide +kernel
theorem dX12_unit_19 : decode cX12_unit 19 = .ok (.aload_n 0, 1) := by decide +kernel
theorem dX12_unit_20 : decode cX12_unit 20 = .ok (.getfield 358, 3) := by decide +kernel
theorem dX12_unit_23 : decode cX12_unit 23 = .ok (.iconst 1, 1) := by decide +kernel
theorem dX12_unit_24 : decode cX12_unit 24 = .ok (.isub, 1) := by decide +kernel
theorem dX12_unit_25 : decode cX12_unit 25 = .ok (.iaload, 1) := by decide +kernel
theorem dX12_unit_26 : decode cX12_unit 26 = .ok (.bipush 7, 2) := by decide +kernel
theorem dX12_unit_28 : decode cX12_unit 28 = .ok (.if_icmp .lt 7, 3) := by decide +kernel
theorem dX12_unit_31 : decode cX12_unit 31 = .ok (.iconst 1, 1) := by decide +kernel
theorem dX12_unit_32 : decode cX12_unit 32 = .ok (.goto 4, 3) := by decide +kernel
theorem dX12_unit_35 : decode cX12_unit 35 = .ok (.iconst 0, 1) := by decide +kernel
theorem dX12_unit_36 : decode cX12_unit 36 = .ok (.istore_n 1, 1) := by decide +kernel
theorem dX12_unit_37 : decode cX12_unit 37 = .ok (.iload_n 1, 1) := by decide +kernel
theorem dX12_unit_38 : decode cX12_unit 38 = .ok (.ifCond .eq 17, 3) := by decide +kernel
theorem dX12_unit_41 : decode cX12_unit 41 = .ok (.aload_n 0, 1) := by decide +kernel
theorem dX12_unit_42 : decode cX12_unit 42 = .ok (.ldc2_w 231, 3) := by decide +kernel
theorem dX12_unit_45 : decode cX12_unit 45 = .ok (.invokevirtual 281, 3) := by decide +kernel
theorem dX12_unit_48 : decode cX12_unit 48 = .ok (.ifCond .eq 7, 3) := by decide +kernel
theorem dX12_unit_51 : decode cX12_unit 51 = .ok (.iconst 1, 1) := by decide +kernel
theorem dX12_unit_52 : decode cX12_unit 52 = .ok (.goto 4, 3) := by decide +kernel
theorem dX12_unit_55 : decode cX12_unit 55 = .ok (.iconst 0, 1) := by decide +kernel
theorem dX12_unit_56 : decode cX12_unit 56 = .ok (.istore_n 2, 1) := by decide +kernel
theorem dX12_unit_57 : decode cX12_unit 57 = .ok (.aload_n 0, 1) := by decide +kernel
theorem dX12_unit_58 : decode cX12_unit 58 = .ok (.bipush 40, 2) := by decide +kernel
theorem dX12_unit_60 : decode cX12_unit 60 = .ok (.invokevirtual 335, 3) := by decide +kernel
theorem dX12_unit_63 : decode cX12_unit 63 = .ok (.istore_n 3, 1) := by decide +kernel
theorem dX12_unit_64 : decode cX12_unit 64 = .ok (.aload_n 0, 1) := by decide +kernel
theorem dX12_unit_65 : decode cX12_unit 65 = .ok (.invokevirtual 373, 3) := by decide +kernel
theorem dX12_unit_68 : decode cX12_unit 68 = .ok (.istore 4, 2) := by decide +kernel
theorem dX12_unit_70 : decode cX12_unit 70 = .ok (.aload_n 0, 1) := by decide +kernel
theorem dX12_unit_71 : decode cX12_unit 71 = .ok (.getfield 33, 3) := by decide +kernel
theorem dX12_unit_74 : decode cX12_unit 74 = .ok (.aload_n 0, 1) := by decide +kernel
theorem dX12_unit_75 : decode cX12_unit 75 = .ok (.getfield 292, 3) := by decide +kernel
theorem dX12_unit_78 : decode cX12_unit 78 = .ok (.iaload, 1) := by decide +kernel
theorem dX12_unit_79 : decode cX12_unit 79 = .ok (.bipush 60, 2) := by decide +kernel
theorem dX12_unit_81 : decode cX12_unit 81 = .ok (.if_icmp .eq 12, 3) := by decide +kernel
theorem dX12_unit_84 : decode cX12_unit 84 = .ok (.aload_n 0, 1) := by decide +kernel
theorem dX12_unit_85 : decode cX12_unit 85 = .ok (.getfield 352, 3) := by decide +kernel
theorem dX12_unit_88 : decode cX12_unit 88 = .ok (.bipush 30, 2) := by decide +kernel
theorem dX12_unit_90 : decode cX12_unit 90 = .ok (.if_icmp .ne 7, 3) := by decide +kernel
theorem dX12_unit_93 : decode cX12_unit 93 = .ok (.iconst 1, 1) := by decide +kernel
theorem dX12_unit_94 : decode cX12_unit 94 = .ok (.goto 4, 3) := by decide +kernel
theorem dX12_unit_97 : decode cX12_unit 97 = .ok (.iconst 0, 1) := by decide +kernel
theorem dX12_unit_98 : decode cX12_unit 98 = .ok (.istore 5, 2) := by decide +kernel
theorem dX12_unit_100 : decode cX12_unit 100 = .ok (.iload_n 2, 1) := by decide +kernel
theorem dX12_unit_101 : decode cX12_unit 101 = .ok (.ifCond .ne 25, 3) := by decide +kernel
theorem dX12_unit_104 : decode cX12_unit 104 = .ok (.iload 4, 2) := by decide +kernel
theorem dX12_unit_106 : decode cX12_unit 106 = .ok (.ifCond .ne 15, 3) := by decide +kernel
theorem dX12_unit_109 : decode cX12_unit 109 = .ok (.aload_n 0, 1) := by decide +kernel
theorem dX12_unit_110 : decode cX12_unit 110 = .ok (.getfield 243, 3) := by decide +kernel
theorem dX12_unit_113 : decode cX12_unit 113 = .ok (.iconst 4, 1) := by decide +kernel
theorem dX12_unit_114 : decode cX12_unit 114 = .ok (.if_icmp .eq 7, 3) := by decide +kernel
theorem dX12_unit_117 : decode cX12_unit 117 = .ok (.iload_n 3, 1) := by decide +kernel
theorem dX12_unit_118 : decode cX12_unit 118 = .ok (.ifCond .eq 25, 3) := by decide +kernel
theorem dX12_unit_121 : decode cX12_unit 121 = .ok (.iload 5, 2) := by decide +kernel
theorem dX12_unit_123 : decode cX12_unit 123 = .ok (.ifCond .ne 20, 3) := by decide +kernel
theorem dX12_unit_126 : decode cX12_unit 126 = .ok (.iload_n 2, 1) := by decide +kernel
theorem dX12_unit_127 : decode cX12_unit 127 = .ok (.ifCond .ne 7, 3) := by decide +kernel
theorem dX12_unit_130 : decode cX12_unit 130 = .ok (.iload_n 3, 1) := by decide +kernel
theorem dX12_unit_131 : decode cX12_unit 131 = .ok (.ifCond .eq 16, 3) := by decide +kernel
theorem dX12_unit_134 : decode cX12_unit 134 = .ok (.aload_n 0, 1) := by decide +kernel
theorem dX12_unit_135 : decode cX12_unit 135 = .ok (.getfield 361, 3) := by decide +kernel
theorem dX12_unit_138 : decode cX12_unit 138 = .ok (.bipush 7, 2) := by decide +kernel
theorem dX12_unit_140 : decode cX12_unit 140 = .ok (.if_icmp .ne 7, 3) := by decide +kernel
theorem dX12_unit_143 : decode cX12_unit 143 = .ok (.aload_n 0, 1) := by decide +kernel
theorem dX12_unit_144 : decode cX12_unit 144 = .ok (.invokevirtual 278, 3) := by decide +kernel
theorem dX12_unit_147 : decode cX12_unit 147 = .ok (.aload_n 0, 1) := by decide +kernel
theorem dX12_unit_148 : decode cX12_unit 148 = .ok (.invokevirtual 271, 3) := by decide +kernel
theorem dX12_unit_151 : decode cX12_unit 151 = .ok (.ifCond .ne 5, 3) := by decide +kernel
theorem dX12_unit_154 : decode cX12_unit 154 = .ok (.iconst 1, 1) := by decide +kernel
theorem dX12_unit_155 : decode cX12_unit 155 = .ok (.ireturn, 1) := by decide +kernel
theorem dX12_unit_156 : decode cX12_unit 156 = .ok (.aload_n 0, 1) := by decide +kernel
theorem dX12_unit_157 : decode cX12_unit 157 = .ok (.getfield 33, 3) := by decide +kernel
theorem dX12_unit_160 : decode cX12_unit 160 = .ok (.aload_n 0, 1) := by decide +kernel
theorem dX12_unit_161 : decode cX12_unit 161 = .ok (.getfield 292, 3) := by decide +kernel
theorem dX12_unit_164 : decode cX12_unit 164 = .ok (.dup2, 1) := by decide +kernel
theorem dX12_unit_165 : decode cX12_unit 165 = .ok (.iaload, 1) := by decide +kernel
theorem dX12_unit_166 : decode cX12_unit 166 = .ok (.iload_n 2, 1) := by decide +kernel
theorem dX12_unit_167 : decode cX12_unit 167 = .ok (.ifCond .eq 7, 3) := by decide +kernel
theorem dX12_unit_170 : decode cX12_unit 170 = .ok (.iconst 0, 1) := by decide +kernel
theorem dX12_unit_171 : decode cX12_unit 171 = .ok (.goto 4, 3) := by decide +kernel
theorem dX12_unit_174 : decode cX12_unit 174 = .ok (.iconst 1, 1) := by decide +kernel
theorem dX12_unit_175 : decode cX12_unit 175 = .ok (.iadd, 1) := by decide +kernel
theorem dX12_unit_176 : decode cX12_unit 176 = .ok (.iastore, 1) := by decide +kernel
theorem dX12_unit_177 : decode cX12_unit 177 = .ok (.aload_n 0, 1) := by decide +kernel
theorem dX12_unit_178 : decode cX12_unit 178 = .ok (.dup, 1) := by decide +kernel
theorem dX12_unit_179 : decode cX12_unit 179 = .ok (.getfield 352, 3) := by decide +kernel
theorem dX12_unit_182 : decode cX12_unit 182 = .ok (.iload_n 2, 1) := by decide +kernel
theorem dX12_unit_183 : decode cX12_unit 183 = .ok (.ifCond .eq 7, 3) := by decide +kernel
theorem dX12_unit_186 : decode cX12_unit 186 = .ok (.iconst 0, 1) := by decide +kernel
theorem dX12_unit_187 : decode cX12_unit 187 = .ok (.goto 4, 3) := by decide +kernel
theorem dX12_unit_190 : decode cX12_unit 190 = .ok (.iconst 1, 1) := by decide +kernel
theorem dX12_unit_191 : decode cX12_unit 191 = .ok (.iadd, 1) := by decide +kernel
theorem dX12_unit_192 : decode cX12_unit 192 = .ok (.putfield 352, 3) := by decide +kernel
theorem dX12_unit_195 : decode cX12_unit 195 = .ok (.iload 4, 2) := by decide +kernel
theorem dX12_unit_197 : decode cX12_unit 197 = .ok (.ifCond .ne 10, 3) := by decide +kernel
theorem dX12_unit_200 : decode cX12_unit 200 = .ok (.aload_n 0, 1) := by decide +kernel
theorem dX12_unit_201 : decode cX12_unit 201 = .ok (.getfield 261, 3) := by decide +kernel
theorem dX12_unit_204 : decode cX12_unit 204 = .ok (.goto 4, 3) := by decide +kernel
theorem dX12_unit_207 : decode cX12_unit 207 = .ok (.iconst 0, 1) := by decide +kernel
theorem dX12_unit_208 : decode cX12_unit 208 = .ok (.istore 6, 2) := by decide +kernel
theorem dX12_unit_210 : decode cX12_unit 210 = .ok (.aload_n 0, 1) := by decide +kernel
theorem dX12_unit_211 : decode cX12_unit 211 = .ok (.invokevirtual 275, 3) := by decide +kernel
theorem dX12_unit_214 : decode cX12_unit 214 = .ok (.iload_n 2, 1) := by decide +kernel
theorem dX12_unit_215 : decode cX12_unit 215 = .ok (.ifCond .ne 7, 3) := by decide +kernel
theorem dX12_unit_218 : decode cX12_unit 218 = .ok (.iload_n 3, 1) := by decide +kernel
theorem dX12_unit_219 : decode cX12_unit 219 = .ok (.ifCond .eq 31, 3) := by decide +kernel
theorem dX12_unit_222 : decode cX12_unit 222 = .ok (.aload_n 0, 1) := by decide +kernel
theorem dX12_unit_223 : decode cX12_unit 223 = .ok (.iload_n 2, 1) := by decide +kernel
theorem dX12_unit_224 : decode cX12_unit 224 = .ok (.ifCond .eq 7, 3) := by decide +kernel
theorem dX12_unit_227 : decode cX12_unit 227 = .ok (.iconst 3, 1) := by decide +kernel
theorem dX12_unit_228 : decode cX12_unit 228 = .ok (.goto 5, 3) := by decide +kernel
theorem dX12_unit_231 : decode cX12_unit 231 = .ok (.bipush 7, 2) := by decide +kernel
theorem dX12_unit_233 : decode cX12_unit 233 = .ok (.bipush 126, 2) := by decide +kernel
theorem dX12_unit_235 : decode cX12_unit 235 = .ok (.invokevirtual 364, 3) := by decide +kernel
theorem dX12_unit_238 : decode cX12_unit 238 = .ok (.aload_n 0, 1) := by decide +kernel
theorem dX12_unit_239 : decode cX12_unit 239 = .ok (.dup, 1) := by decide +kernel
theorem dX12_unit_240 : decode cX12_unit 240 = .ok (.getfield 361, 3) := by decide +kernel
theorem dX12_unit_243 : decode cX12_unit 243 = .ok (.iconst 1, 1) := by decide +kernel
theorem dX12_unit_244 : decode cX12_unit 244 = .ok (.iadd, 1) := by decide +kernel
theorem dX12_unit_245 : decode cX12_unit 245 = .ok (.putfield 361, 3) := by decide +kernel
theorem dX12_unit_248 : decode cX12_unit 248 = .ok (.iconst 1, 1) := by decide +kernel
theorem dX12_unit_249 : decode cX12_unit 249 = .ok (.ireturn, 1) := by decide +kernel
theorem dX12_unit_250 : decode cX12_unit 250 = .ok (.aload_n 0, 1) := by decide +kernel
theorem dX12_unit_251 : decode cX12_unit 251 = .ok (.iload 4, 2) := by decide +kernel
theorem dX12_unit_253 : decode cX12_unit 253 = .ok (.ifCond .ne 8, 3) := by decide +kernel
theorem dX12_unit_256 : decode cX12_unit 256 = .ok (.bipush 110, 2) := by decide +kernel
theorem dX12_unit_258 : decode cX12_unit 258 = .ok (.goto 5, 3) := by decide +kernel
theorem dX12_unit_261 : decode cX12_unit 261 = .ok (.iload 4, 2) := by decide +kernel
theorem dX12_unit_263 : decode cX12_unit 263 = .ok (.iload 6, 2) := by decide +kernel
theorem dX12_unit_265 : decode cX12_unit 265 = .ok (.invokevirtual 376, 3) := by decide +kernel
theorem dX12_unit_268 : decode cX12_unit 268 = .ok (.iconst 0, 1) := by decide +kernel
theorem dX12_unit_269 : decode cX12_unit 269 = .ok (.ireturn, 1) := by decide +kernel
abbrev mi_X12_unit : MI := (zTM, RX12, yX12_unit, cX12_unit, 7, (some .boolean), 4)
theorem cal_X12_unit : zCalV mi_X12_unit 0 := ⟨⟨zTB_i8 10 (by decide +kernel), zTB_i8 9 (by decide +kernel), zTB_i0 71 (by decide +kernel), zTB_i1 13 (by decide +kernel)⟩, ⟨by decide, by decide, by decide +kernel⟩, by decide⟩
noncomputable def X12_unit (M : Mem) : Option (Bool × Mem) :=
  gd_ (inb ((M.1 0 45) - 1) (90) = true) (
  l1_ (α := Int32) (
    l1_ (α := Bool) (
      if (M.1 30 (((M.1 0 45) - 1).toNatClampNeg)) ≤ 3 then
        true
      else
      if (M.1 30 (((M.1 0 45) - 1).toNatClampNeg)) < 7 then
        false
      else
      true) fun t4 =>
    if t4 = true then
      1
    else
    0) fun y6 =>
  l1_ (α := Int32) (
    l1_ (α := Bool) (
      if y6 = 0 then
        true
      else
      if (X12_isWord 7237492 M) = true then
        false
      else
      true) fun t9 =>
    if t9 = true then
      0
    else
    1) fun y11 =>
  bo_ (X12_isSignHere 40 M) fun b12 =>
  lt_ (α := Int32) ((X12_wordHere M)) fun y13 =>
  gd_ (inb (M.1 0 42) (2) = true) (
  l1_ (α := Int32) (
    l1_ (α := Bool) (
      if (M.1 7 ((M.1 0 42).toNatClampNeg)) = 60 then
        true
      else
      if (M.1 0 46) = 30 then
        true
      else
      false) fun t17 =>
    if t17 = true then
      1
    else
    0) fun y19 =>
  l1_ (α := Mem) (
    l1_ (α := Bool) (
      if y11 = 0 then
        if y13 = 0 then
          if (M.1 0 8) = 4 then
            if y19 = 0 then
              true
            else
            false
          else
          if b12 = true then
            if y19 = 0 then
              true
            else
            false
          else
          false
        else
        if y19 = 0 then
          true
        else
        false
      else
      true) fun t27 =>
    if t27 = true then
      l1_ (α := Bool) (
        if y11 = 0 then
          if b12 = true then
            true
          else
          false
        else
        true) fun t31 =>
      if t31 = true then
        if (M.1 0 44) = 7 then
          lt_ (X12_misplaced M) fun M34 =>
          M34
        else
        M
      else
      M
    else
    lt_ (X12_misplaced M) fun M35 =>
    M35) fun M36 =>
  if (X12_isGood M36) = true then
    gd_ (inb (M36.1 0 42) (2) = true) (
    l1_ (α := Int32) (
      if y11 = 0 then
        1
      else
      0) fun y40 =>
    lt_ (uI M36 7 ((M36.1 0 42).toNatClampNeg) ((M36.1 7 ((M36.1 0 42).toNatClampNeg)) + y40)) fun M41 =>
    l1_ (α := Int32) (
      if y11 = 0 then
        1
      else
      0) fun y43 =>
    lt_ (uI M41 0 46 ((M41.1 0 46) + y43)) fun M44 =>
    l1_ (α := Int32) (
      if y13 = 0 then
        M44.1 0 9
      else
      0) fun y46 =>
    bo_ (X12_goOn M44) fun M47 =>
    l1_ (α := Bool) (
      if y11 = 0 then
        if b12 = true then
          true
        else
        false
      else
      true) fun t50 =>
    if t50 = true then
      l1_ (α := Int32) (
        if y11 = 0 then
          7
        else
        3) fun y53 =>
      bo_ (X12_pushE y53 126 M47) fun M54 =>
      lt_ (uI M54 0 44 ((M54.1 0 44) + 1)) fun M55 =>
      some (true, M55)
    else
    l1_ (α := Int32) (
      if y13 = 0 then
        110
      else
      y13) fun y57 =>
    bo_ (X12_emit y57 y46 M47) fun M58 =>
    some (false, M58))
  else
  some (true, M36)))
set_option maxRecDepth 100000 in
set_option maxHeartbeats 4000000 in
theorem X12_unit_ok (G : Gh) (M : Mem) : Mt G mi_X12_unit [.ref (G.2.2.2 (0))] M ((dO dZM) (X12_unit M)) := by
  refine Mt_of (lv := [some (.ref (G.2.2.2 (0)))]) (by decide) rfl (Nat.le_of_ble_eq_true rfl) rfl ?_
  refine r_le (lv' := [some (.ref (G.2.2.2 (0))), none, none, none, none, none, none]) (And.intro rfl True.intro) ?_
  unfold X12_unit
  refine r_aload_n dX12_unit_0 rfl ?_
  refine r_getf (v := .ref (G.2.2.2 (30))) dX12_unit_1 fM_0_38 kX12 (by decide) lkf_X12_104 rfl ?_
  refine r_aload_n dX12_unit_4 rfl ?_
  refine r_getf (v := .int (M.1 0 45)) dX12_unit_5 fM_0_45 kX12 (by decide) lkf_X12_358 rfl ?_
  refine r_iconst (x := 1) dX12_unit_8 rfl ?_
  refine r_isub dX12_unit_9 ?_
  refine r_gd rfl (fun g1 => ?_)
  refine r_iald dX12_unit_10 aM_30 (inb_in g1) rfl ?_
  refine r_iconst (x := 3) dX12_unit_11 rfl ?_
  refine r_jL1 (j := 36) (lvj := fun y6 => [some (.ref (G.2.2.2 (0))), none, none, none, none, none, none]) (stj := fun y6 => [.int y6]) (Mj := fun y6 => M) (fun y6 => ?_) (fun hj36 => ?_)
  · refine r_istore_n (lv' := [some (.ref (G.2.2.2 (0))), some (.int y6), none, none, none, none, none]) dX12_unit_36 (Nat.le_of_ble_eq_true rfl) rfl rfl ?_
    refine r_iload_n dX12_unit_37 rfl ?_
    refine r_jL1 (j := 56) (lvj := fun y11 => [some (.ref (G.2.2.2 (0))), none, none, none, none, none, none]) (stj := fun y11 => [.int y11]) (Mj := fun y11 => M) (fun y11 => ?_) (fun hj56 => ?_)
    · refine r_istore_n (lv' := [some (.ref (G.2.2.2 (0))), none, some (.int y11), none, none, none, none]) dX12_unit_56 (Nat.le_of_ble_eq_true rfl) rfl rfl ?_
      refine r_aload_n dX12_unit_57 rfl ?_
      refine r_bipush (x := 40) dX12_unit_58 rfl ?_
      refine c_OZ rfl (inv_V (mi := mi_X12_unit) (b := 0) (rest := []) (X12_isSignHere_ok G 40 M) rfl (by decide) dX12_unit_60 lkm_X12_335 cal_X12_isSignHere cM_0 rfl rfl (Nat.le_of_ble_eq_true rfl) rfl) (fun b12 => ?_)
      refine r_istore_n (lv' := [some (.ref (G.2.2.2 (0))), none, some (.int y11), some (.int (b2i (b12))), none, none, none]) dX12_unit_63 (Nat.le_of_ble_eq_true rfl) rfl rfl ?_
      refine r_aload_n dX12_unit_64 rfl ?_
      refine c_I (inv_V (mi := mi_X12_unit) (b := 0) (rest := []) (X12_wordHere_ok G M) rfl (by decide) dX12_unit_65 lkm_X12_373 cal_X12_wordHere cM_0 rfl rfl (Nat.le_of_ble_eq_true rfl) rfl) ?_
      refine r_letI (fun y13 => ?_)
      refine r_istore (lv' := [some (.ref (G.2.2.2 (0))), none, some (.int y11), some (.int (b2i (b12))), some (.int y13), none, none]) dX12_unit_68 (Nat.le_of_ble_eq_true rfl) rfl rfl ?_
      refine r_aload_n dX12_unit_70 rfl ?_
      refine r_getf (v := .ref (G.2.2.2 (7))) dX12_unit_71 fM_0_15 kX12 (by decide) lkf_X12_33 rfl ?_
      refine r_aload_n dX12_unit_74 rfl ?_
      refine r_getf (v := .int (M.1 0 42)) dX12_unit_75 fM_0_42 kX12 (by decide) lkf_X12_292 rfl ?_
      refine r_gd rfl (fun g14 => ?_)
      refine r_iald dX12_unit_78 aM_7 (inb_in g14) rfl ?_
      refine r_bipush (x := 60) dX12_unit_79 rfl ?_
      refine r_jL1 (j := 98) (lvj := fun y19 => [some (.ref (G.2.2.2 (0))), none, some (.int y11), some (.int (b2i (b12))), some (.int y13), none, none]) (stj := fun y19 => [.int y19]) (Mj := fun y19 => M) (fun y19 => ?_) (fun hj98 => ?_)
      · refine r_istore (lv' := [some (.ref (G.2.2.2 (0))), none, some (.int y11), some (.int (b2i (b12))), some (.int y13), some (.int y19), none]) dX12_unit_98 (Nat.le_of_ble_eq_true rfl) rfl rfl ?_
        refine r_iload_n dX12_unit_100 rfl ?_
        refine r_jL1 (j := 147) (lvj := fun M36 => [some (.ref (G.2.2.2 (0))), none, some (.int y11), some (.int (b2i (b12))), some (.int y13), none, none]) (stj := fun M36 => []) (Mj := fun M36 => M36) (fun M36 => ?_) (fun hj147 => ?_)
        · refine r_aload_n dX12_unit_147 rfl ?_
          refine c_Z (inv_V (mi := mi_X12_unit) (b := 0) (rest := []) (X12_isGood_ok G M36) rfl (by decide) dX12_unit_148 lkm_X12_271 cal_X12_isGood cM_0 rfl rfl (Nat.le_of_ble_eq_true rfl) rfl) ?_
          refine r_ifz_ne (tgt := 156) dX12_unit_151 rfl (fun h37 => ?_) (fun h37 => ?_)
          · refine r_aload_n dX12_unit_156 rfl ?_
            refine r_getf (v := .ref (G.2.2.2 (7))) dX12_unit_157 fM_0_15 kX12 (by decide) lkf_X12_33 rfl ?_
            refine r_aload_n dX12_unit_160 rfl ?_
            refine r_getf (v := .int (M36.1 0 42)) dX12_unit_161 fM_0_42 kX12 (by decide) lkf_X12_292 rfl ?_
            refine r_dup2 dX12_unit_164 rfl rfl ?_
            refine r_gd rfl (fun g38 => ?_)
            refine r_iald dX12_unit_165 aM_7 (inb_in g38) rfl ?_
            refine r_iload_n dX12_unit_166 rfl ?_
            refine r_jL1 (j := 175) (lvj := fun y40 => [some (.ref (G.2.2.2 (0))), none, some (.int y11), some (.int (b2i (b12))), some (.int y13), none, none]) (stj := fun y40 => [.int y40, .int (M36.1 7 ((M36.1 0 42).toNatClampNeg)), .int (M36.1 0 42), .ref (G.2.2.2 (7))]) (Mj := fun y40 => M36) (fun y40 => ?_) (fun hj175 => ?_)
            · refine r_iadd dX12_unit_175 ?_
              refine r_iast dX12_unit_176 aM_7 (inb_in g38) rfl (fun M41 => ?_)
              refine r_aload_n dX12_unit_177 rfl ?_
              refine r_dup dX12_unit_178 rfl ?_
              refine r_getf (v := .int (M41.1 0 46)) dX12_unit_179 fM_0_46 kX12 (by decide) lkf_X12_352 rfl ?_
              refine r_iload_n dX12_unit_182 rfl ?_
              refine r_jL1 (j := 191) (lvj := fun y43 => [some (.ref (G.2.2.2 (0))), none, some (.int y11), some (.int (b2i (b12))), some (.int y13), none, none]) (stj := fun y43 => [.int y43, .int (M41.1 0 46), .ref (G.2.2.2 (0))]) (Mj := fun y43 => M41) (fun y43 => ?_) (fun hj191 => ?_)
              · refine r_iadd dX12_unit_191 ?_
                refine r_putI dX12_unit_192 fM_0_46 kX12 (by decide) rfl rfl lkf_X12_352 (fun _ => rfl) rfl rfl (fun M44 => ?_)
                refine r_iload dX12_unit_195 rfl ?_
                refine r_jL1 (j := 208) (lvj := fun y46 => [some (.ref (G.2.2.2 (0))), none, some (.int y11), some (.int (b2i (b12))), some (.int y13), none, none]) (stj := fun y46 => [.int y46]) (Mj := fun y46 => M44) (fun y46 => ?_) (fun hj208 => ?_)
                · refine r_istore (lv' := [some (.ref (G.2.2.2 (0))), none, some (.int y11), some (.int (b2i (b12))), some (.int y13), none, some (.int y46)]) dX12_unit_208 (Nat.le_of_ble_eq_true rfl) rfl rfl ?_
                  refine r_aload_n dX12_unit_210 rfl ?_
                  refine c_OV rfl (inv_V (mi := mi_X12_unit) (b := 0) (rest := []) (X12_goOn_ok G M44) rfl (by decide) dX12_unit_211 lkm_X12_275 cal_X12_goOn cM_0 rfl rfl (Nat.le_of_ble_eq_true rfl) rfl) (fun M47 => ?_)
                  refine r_iload_n dX12_unit_214 rfl ?_
                  refine r_cL (jX := 222) (jY := 250) (lvX := [some (.ref (G.2.2.2 (0))), none, some (.int y11), none, none, none, none]) (lvY := [some (.ref (G.2.2.2 (0))), none, none, none, some (.int y13), none, some (.int y46)]) (stX := []) (M1 := M47) (fun h51 => ?_) (fun h51 => ?_) (fun hX222 hY250 => ?_)
                  · refine r_eq (if_pos rfl) ?_
                    refine r_aload_n dX12_unit_222 rfl ?_
                    refine r_iload_n dX12_unit_223 rfl ?_
                    refine r_jL1 (j := 233) (lvj := fun y53 => [some (.ref (G.2.2.2 (0))), none, none, none, none, none, none]) (stj := fun y53 => [.int y53, .ref (G.2.2.2 (0))]) (Mj := fun y53 => M47) (fun y53 => ?_) (fun hj233 => ?_)
                    · refine r_bipush (x := 126) dX12_unit_233 rfl ?_
                      refine c_OV rfl (inv_V (mi := mi_X12_unit) (b := 0) (rest := []) (X12_pushE_ok G y53 126 M47) rfl (by decide) dX12_unit_235 lkm_X12_364 cal_X12_pushE cM_0 rfl rfl (Nat.le_of_ble_eq_true rfl) rfl) (fun M54 => ?_)
                      refine r_aload_n dX12_unit_238 rfl ?_
                      refine r_dup dX12_unit_239 rfl ?_
                      refine r_getf (v := .int (M54.1 0 44)) dX12_unit_240 fM_0_44 kX12 (by decide) lkf_X12_361 rfl ?_
                      refine r_iconst (x := 1) dX12_unit_243 rfl ?_
                      refine r_iadd dX12_unit_244 ?_
                      refine r_putI dX12_unit_245 fM_0_44 kX12 (by decide) rfl rfl lkf_X12_361 (fun _ => rfl) rfl rfl (fun M55 => ?_)
                      refine r_iconst (x := 1) dX12_unit_248 rfl ?_
                      exact r_iret (ty := .boolean) dX12_unit_249 rfl rfl rfl
                    refine r_if_eq (tgt := 231) dX12_unit_224 rfl (fun h52 => ?_) (fun h52 => ?_)
                    · refine r_bipush (x := 7) dX12_unit_231 rfl ?_
                      exact r_lk (hj233 7) (And.intro rfl True.intro)
                    refine r_iconst (x := 3) dX12_unit_227 rfl ?_
                    refine r_goto (tgt := 233) dX12_unit_228 rfl ?_
                    exact r_lk (hj233 3) (And.intro rfl True.intro)
                  · refine r_eq (if_neg (by decide)) ?_
                    refine r_aload_n dX12_unit_250 rfl ?_
                    refine r_iload dX12_unit_251 rfl ?_
                    refine r_jL1 (j := 263) (lvj := fun y57 => [none, none, none, none, none, none, some (.int y46)]) (stj := fun y57 => [.int y57, .ref (G.2.2.2 (0))]) (Mj := fun y57 => M47) (fun y57 => ?_) (fun hj263 => ?_)
                    · refine r_iload dX12_unit_263 rfl ?_
                      refine c_OV rfl (inv_V (mi := mi_X12_unit) (b := 0) (rest := []) (X12_emit_ok G y57 y46 M47) rfl (by decide) dX12_unit_265 lkm_X12_376 cal_X12_emit cM_0 rfl rfl (Nat.le_of_ble_eq_true rfl) rfl) (fun M58 => ?_)
                      refine r_iconst (x := 0) dX12_unit_268 rfl ?_
                      exact r_iret (ty := .boolean) dX12_unit_269 rfl rfl rfl
                    refine r_if_ne (tgt := 261) dX12_unit_253 rfl (fun h56 => ?_) (fun h56 => ?_)
                    · refine r_bipush (x := 110) dX12_unit_256 rfl ?_
                      refine r_goto (tgt := 263) dX12_unit_258 rfl ?_
                      exact r_lk (hj263 110) (And.intro rfl True.intro)
                    refine r_iload dX12_unit_261 rfl ?_
                    exact r_lk (hj263 y13) (And.intro rfl True.intro)
                  refine r_if_ne (tgt := 222) dX12_unit_215 rfl (fun h48 => ?_) (fun h48 => ?_)
                  · refine r_iload_n dX12_unit_218 rfl ?_
                    refine r_ifz_eq (tgt := 250) dX12_unit_219 rfl (fun h49 => ?_) (fun h49 => ?_)
                    · exact r_lk hX222 (And.intro rfl (And.intro rfl True.intro))
                    exact r_lk hY250 (And.intro rfl (And.intro rfl (And.intro rfl True.intro)))
                  exact r_lk hX222 (And.intro rfl (And.intro rfl True.intro))
                refine r_if_ne (tgt := 207) dX12_unit_197 rfl (fun h45 => ?_) (fun h45 => ?_)
                · refine r_aload_n dX12_unit_200 rfl ?_
                  refine r_getf (v := .int (M44.1 0 9)) dX12_unit_201 fM_0_9 kX12 (by decide) lkf_X12_261 rfl ?_
                  refine r_goto (tgt := 208) dX12_unit_204 rfl ?_
                  exact r_lk (hj208 (M44.1 0 9)) (And.intro rfl (And.intro rfl (And.intro rfl (And.intro rfl True.intro))))
                refine r_iconst (x := 0) dX12_unit_207 rfl ?_
                exact r_lk (hj208 0) (And.intro rfl (And.intro rfl (And.intro rfl (And.intro rfl True.intro))))
              refine r_if_eq (tgt := 190) dX12_unit_183 rfl (fun h42 => ?_) (fun h42 => ?_)
              · refine r_iconst (x := 1) dX12_unit_190 rfl ?_
                exact r_lk (hj191 1) (And.intro rfl (And.intro rfl (And.intro rfl (And.intro rfl True.intro))))
              refine r_iconst (x := 0) dX12_unit_186 rfl ?_
              refine r_goto (tgt := 191) dX12_unit_187 rfl ?_
              exact r_lk (hj191 0) (And.intro rfl (And.intro rfl (And.intro rfl (And.intro rfl True.intro))))
            refine r_if_eq (tgt := 174) dX12_unit_167 rfl (fun h39 => ?_) (fun h39 => ?_)
            · refine r_iconst (x := 1) dX12_unit_174 rfl ?_
              exact r_lk (hj175 1) (And.intro rfl (And.intro rfl (And.intro rfl (And.intro rfl True.intro))))
            refine r_iconst (x := 0) dX12_unit_170 rfl ?_
            refine r_goto (tgt := 175) dX12_unit_171 rfl ?_
            exact r_lk (hj175 0) (And.intro rfl (And.intro rfl (And.intro rfl (And.intro rfl True.intro))))
          refine r_iconst (x := 1) dX12_unit_154 rfl ?_
          exact r_iret (ty := .boolean) dX12_unit_155 rfl rfl rfl
        refine r_cL (jX := 126) (jY := 143) (lvX := [some (.ref (G.2.2.2 (0))), none, some (.int y11), some (.int (b2i (b12))), some (.int y13), none, none]) (lvY := [some (.ref (G.2.2.2 (0))), none, some (.int y11), some (.int (b2i (b12))), some (.int y13), none, none]) (stX := []) (M1 := M) (fun h28 => ?_) (fun h28 => ?_) (fun hX126 hY143 => ?_)
        · refine r_eq (if_pos rfl) ?_
          refine r_iload_n dX12_unit_126 rfl ?_
          refine r_cL (jX := 134) (jY := 147) (lvX := [some (.ref (G.2.2.2 (0))), none, some (.int y11), some (.int (b2i (b12))), some (.int y13), none, none]) (lvY := [some (.ref (G.2.2.2 (0))), none, some (.int y11), some (.int (b2i (b12))), some (.int y13), none, none]) (stX := []) (M1 := M) (fun h32 => ?_) (fun h32 => ?_) (fun hX134 hY147 => ?_)
          · refine r_eq (if_pos rfl) ?_
            refine r_aload_n dX12_unit_134 rfl ?_
            refine r_getf (v := .int (M.1 0 44)) dX12_unit_135 fM_0_44 kX12 (by decide) lkf_X12_361 rfl ?_
            refine r_bipush (x := 7) dX12_unit_138 rfl ?_
            refine r_icmp_ne (tgt := 147) dX12_unit_140 rfl (fun h33 => ?_) (fun h33 => ?_)
            · refine r_aload_n dX12_unit_143 rfl ?_
              refine c_V (inv_V (mi := mi_X12_unit) (b := 0) (rest := []) (X12_misplaced_ok G M) rfl (by decide) dX12_unit_144 lkm_X12_278 cal_X12_misplaced cM_0 rfl rfl (Nat.le_of_ble_eq_true rfl) rfl) (fun M34 => ?_)
              exact r_lk (hj147 M34) (And.intro rfl (And.intro rfl (And.intro rfl (And.intro rfl True.intro))))
            exact r_lk (hj147 M) (And.intro rfl (And.intro rfl (And.intro rfl (And.intro rfl True.intro))))
          · refine r_eq (if_neg (by decide)) ?_
            exact r_lk (hj147 M) (And.intro rfl (And.intro rfl (And.intro rfl (And.intro rfl True.intro))))
          refine r_if_ne (tgt := 134) dX12_unit_127 rfl (fun h29 => ?_) (fun h29 => ?_)
          · refine r_iload_n dX12_unit_130 rfl ?_
            refine r_ifz_eq (tgt := 147) dX12_unit_131 rfl (fun h30 => ?_) (fun h30 => ?_)
            · exact r_lk hX134 (And.intro rfl (And.intro rfl (And.intro rfl (And.intro rfl True.intro))))
            exact r_lk hY147 (And.intro rfl (And.intro rfl (And.intro rfl (And.intro rfl True.intro))))
          exact r_lk hX134 (And.intro rfl (And.intro rfl (And.intro rfl (And.intro rfl True.intro))))
        · refine r_eq (if_neg (by decide)) ?_
          refine r_aload_n dX12_unit_143 rfl ?_
          refine c_V (inv_V (mi := mi_X12_unit) (b := 0) (rest := []) (X12_misplaced_ok G M) rfl (by decide) dX12_unit_144 lkm_X12_278 cal_X12_misplaced cM_0 rfl rfl (Nat.le_of_ble_eq_true rfl) rfl) (fun M35 => ?_)
          exact r_lk (hj147 M35) (And.intro rfl (And.intro rfl (And.intro rfl (And.intro rfl True.intro))))
        refine r_if_ne (tgt := 126) dX12_unit_101 rfl (fun h20 => ?_) (fun h20 => ?_)
        · refine r_iload dX12_unit_104 rfl ?_
          refine r_if_ne (tgt := 121) dX12_unit_106 rfl (fun h21 => ?_) (fun h21 => ?_)
          · refine r_aload_n dX12_unit_109 rfl ?_
            refine r_getf (v := .int (M.1 0 8)) dX12_unit_110 fM_0_8 kX12 (by decide) lkf_X12_243 rfl ?_
            refine r_iconst (x := 4) dX12_unit_113 rfl ?_
            refine r_icmp_eq (tgt := 121) dX12_unit_114 rfl (fun h23 => ?_) (fun h23 => ?_)
            · refine r_iload dX12_unit_121 rfl ?_
              refine r_if_ne (tgt := 143) dX12_unit_123 rfl (fun h24 => ?_) (fun h24 => ?_)
              · exact r_lk hX126 (And.intro rfl (And.intro rfl (And.intro rfl (And.intro rfl True.intro))))
              exact r_lk hY143 (And.intro rfl (And.intro rfl (And.intro rfl (And.intro rfl True.intro))))
            refine r_iload_n dX12_unit_117 rfl ?_
            refine r_ifz_eq (tgt := 143) dX12_unit_118 rfl (fun h25 => ?_) (fun h25 => ?_)
            · refine r_iload dX12_unit_121 rfl ?_
              refine r_if_ne (tgt := 143) dX12_unit_123 rfl (fun h26 => ?_) (fun h26 => ?_)
              · exact r_lk hX126 (And.intro rfl (And.intro rfl (And.intro rfl (And.intro rfl True.intro))))
              exact r_lk hY143 (And.intro rfl (And.intro rfl (And.intro rfl (And.intro rfl True.intro))))
            exact r_lk hY143 (And.intro rfl (And.intro rfl (And.intro rfl (And.intro rfl True.intro))))
          refine r_iload dX12_unit_121 rfl ?_
          refine r_if_ne (tgt := 143) dX12_unit_123 rfl (fun h22 => ?_) (fun h22 => ?_)
          · exact r_lk hX126 (And.intro rfl (And.intro rfl (And.intro rfl (And.intro rfl True.intro))))
          exact r_lk hY143 (And.intro rfl (And.intro rfl (And.intro rfl (And.intro rfl True.intro))))
        exact r_lk hX126 (And.intro rfl (And.intro rfl (And.intro rfl (And.intro rfl True.intro))))
      refine r_cL (jX := 93) (jY := 97) (lvX := [some (.ref (G.2.2.2 (0))), none, some (.int y11), some (.int (b2i (b12))), some (.int y13), none, none]) (lvY := [some (.ref (G.2.2.2 (0))), none, some (.int y11), some (.int (b2i (b12))), some (.int y13), none, none]) (stX := []) (M1 := M) (fun h18 => ?_) (fun h18 => ?_) (fun hX93 hY97 => ?_)
      · refine r_eq (if_pos rfl) ?_
        refine r_iconst (x := 1) dX12_unit_93 rfl ?_
        refine r_goto (tgt := 98) dX12_unit_94 rfl ?_
        exact r_lk (hj98 1) (And.intro rfl (And.intro rfl (And.intro rfl (And.intro rfl True.intro))))
      · refine r_eq (if_neg (by decide)) ?_
        refine r_iconst (x := 0) dX12_unit_97 rfl ?_
        exact r_lk (hj98 0) (And.intro rfl (And.intro rfl (And.intro rfl (And.intro rfl True.intro))))
      refine r_icmp_eq (tgt := 93) dX12_unit_81 rfl (fun h15 => ?_) (fun h15 => ?_)
      · exact r_lk hX93 (And.intro rfl (And.intro rfl (And.intro rfl (And.intro rfl True.intro))))
      refine r_aload_n dX12_unit_84 rfl ?_
      refine r_getf (v := .int (M.1 0 46)) dX12_unit_85 fM_0_46 kX12 (by decide) lkf_X12_352 rfl ?_
      refine r_bipush (x := 30) dX12_unit_88 rfl ?_
      refine r_icmp_ne (tgt := 97) dX12_unit_90 rfl (fun h16 => ?_) (fun h16 => ?_)
      · exact r_lk hX93 (And.intro rfl (And.intro rfl (And.intro rfl (And.intro rfl True.intro))))
      exact r_lk hY97 (And.intro rfl (And.intro rfl (And.intro rfl (And.intro rfl True.intro))))
    refine r_cL (jX := 55) (jY := 51) (lvX := [some (.ref (G.2.2.2 (0))), none, none, none, none, none, none]) (lvY := [some (.ref (G.2.2.2 (0))), none, none, none, none, none, none]) (stX := []) (M1 := M) (fun h10 => ?_) (fun h10 => ?_) (fun hX55 hY51 => ?_)
    · refine r_eq (if_pos rfl) ?_
      refine r_iconst (x := 0) dX12_unit_55 rfl ?_
      exact r_lk (hj56 0) (And.intro rfl True.intro)
    · refine r_eq (if_neg (by decide)) ?_
      refine r_iconst (x := 1) dX12_unit_51 rfl ?_
      refine r_goto (tgt := 56) dX12_unit_52 rfl ?_
      exact r_lk (hj56 1) (And.intro rfl True.intro)
    refine r_if_eq (tgt := 55) dX12_unit_38 rfl (fun h7 => ?_) (fun h7 => ?_)
    · exact r_lk hX55 (And.intro rfl True.intro)
    refine r_aload_n dX12_unit_41 rfl ?_
    refine r_ldc2 (x := 7237492) dX12_unit_42 lkc_X12_231 ?_
    refine c_Z (inv_V (mi := mi_X12_unit) (b := 0) (rest := []) (X12_isWord_ok G 7237492 M) rfl (by decide) dX12_unit_45 lkm_X12_281 cal_X12_isWord cM_0 rfl rfl (Nat.le_of_ble_eq_true rfl) rfl) ?_
    refine r_ifz_eq (tgt := 55) dX12_unit_48 rfl (fun h8 => ?_) (fun h8 => ?_)
    · exact r_lk hY51 (And.intro rfl True.intro)
    exact r_lk hX55 (And.intro rfl True.intro)
  refine r_cL (jX := 31) (jY := 35) (lvX := [some (.ref (G.2.2.2 (0))), none, none, none, none, none, none]) (lvY := [some (.ref (G.2.2.2 (0))), none, none, none, none, none, none]) (stX := []) (M1 := M) (fun h5 => ?_) (fun h5 => ?_) (fun hX31 hY35 => ?_)
  · refine r_eq (if_pos rfl) ?_
    refine r_iconst (x := 1) dX12_unit_31 rfl ?_
    refine r_goto (tgt := 36) dX12_unit_32 rfl ?_
    exact r_lk (hj36 1) (And.intro rfl True.intro)
  · refine r_eq (if_neg (by decide)) ?_
    refine r_iconst (x := 0) dX12_unit_35 rfl ?_
    exact r_lk (hj36 0) (And.intro rfl True.intro)
  refine r_icmp_le (tgt := 31) dX12_unit_12 rfl (fun h2 => ?_) (fun h2 => ?_)
  · exact r_lk hX31 (And.intro rfl True.intro)
  refine r_aload_n dX12_unit_15 rfl ?_
  refine r_getf (v := .ref (G.2.2.2 (30))) dX12_unit_16 fM_0_38 kX12 (by decide) lkf_X12_104 rfl ?_
  refine r_aload_n dX12_unit_19 rfl ?_
  refine r_getf (v := .int (M.1 0 45)) dX12_unit_20 fM_0_45 kX12 (by decide) lkf_X12_358 rfl ?_
  refine r_iconst (x := 1) dX12_unit_23 rfl ?_
  refine r_isub dX12_unit_24 ?_
  refine r_iald dX12_unit_25 aM_30 (inb_in g1) rfl ?_
  refine r_bipush (x := 7) dX12_unit_26 rfl ?_
  refine r_icmp_lt (tgt := 35) dX12_unit_28 rfl (fun h3 => ?_) (fun h3 => ?_)
  · exact r_lk hY35 (And.intro rfl True.intro)
  exact r_lk hX31 (And.intro rfl True.intro)

theorem dX12_rankHere_0 : decode cX12_rankHere 0 = .ok (.aload_n 0, 1) := by decide +kernel
theorem dX12_rankHere_1 : decode cX12_rankHere 1 = .ok (.ldc2_w 229, 3) := by decide +kernel
theorem dX12_rankHere_4 : decode cX12_rankHere 4 = .ok (.invokevirtual 281, 3) := by decide +kernel
theorem dX12_rankHere_7 : decode cX12_rankHere 7 = .ok (.ifCond .eq 5, 3) := by decide +kernel
theorem dX12_rankHere_10 : decode cX12_rankHere 10 = .ok (.iconst 2, 1) := by decide +kernel
theorem dX12_rankHere_11 : decode cX12_rankHere 11 = .ok (.ireturn, 1) := by decide +kernel
theorem dX12_rankHere_12 : decode cX12_rankHere 12 = .ok (.aload_n 0, 1) := by decide +kernel
theorem dX12_rankHere_13 : decode cX12_rankHere 13 = .ok (.ldc2_w 227, 3) := by decide +kernel
theorem dX12_rankHere_16 : decode cX12_rankHere 16 = .ok (.invokevirtual 281, 3) := by decide +kernel
theorem dX12_rankHere_19 : decode cX12_rankHere 19 = .ok (.ifCond .eq 5, 3) := by decide +kernel
theorem dX12_rankHere_22 : decode cX12_rankHere 22 = .ok (.iconst 1, 1) := by decide +kernel
theorem dX12_rankHere_23 : decode cX12_rankHere 23 = .ok (.ireturn, 1) := by decide +kernel
theorem dX12_rankHere_24 : decode cX12_rankHere 24 = .ok (.aload_n 0, 1) := by decide +kernel
theorem dX12_rankHere_25 : decode cX12_rankHere 25 = .ok (.bipush 60, 2) := by decide +kernel
theorem dX12_rankHere_27 : decode cX12_rankHere 27 = .ok (.invokevirtual 335, 3) := by decide +kernel
theorem dX12_rankHere_30 : decode cX12_rankHere 30 = .ok (.ifCond .ne 21, 3) := by decide +kernel
theorem dX12_rankHere_33 : decode cX12_rankHere 33 = .ok (.aload_n 0, 1) := by decide +kernel
theorem dX12_rankHere_34 : decode cX12_rankHere 34 = .ok (.bipush 62, 2) := by decide +kernel
theorem dX12_rankHere_36 : decode cX12_rankHere 36 = .ok (.invokevirtual 335, 3) := by decide +kernel
theorem dX12_rankHere_39 : decode cX12_rankHere 39 = .ok (.ifCond .ne 12, 3) := by decide +kernel
theorem dX12_rankHere_42 : decode cX12_rankHere 42 = .ok (.aload_n 0, 1) := by decide +kernel
theorem dX12_rankHere_43 : decode cX12_rankHere 43 = .ok (.bipush 61, 2) := by decide +kernel
theorem dX12_rankHere_45 : decode cX12_rankHere 45 = .ok (.invokevirtual 335, 3) := by decide +kernel
theorem dX12_rankHere_48 : decode cX12_rankHere 48 = .ok (.ifCond .eq 5, 3) := by decide +kernel
theorem dX12_rankHere_51 : decode cX12_rankHere 51 = .ok (.iconst 4, 1) := by decide +kernel
theorem dX12_rankHere_52 : decode cX12_rankHere 52 = .ok (.ireturn, 1) := by decide +kernel
theorem dX12_rankHere_53 : decode cX12_rankHere 53 = .ok (.aload_n 0, 1) := by decide +kernel
theorem dX12_rankHere_54 : decode cX12_rankHere 54 = .ok (.bipush 43, 2) := by decide +kernel
theorem dX12_rankHere_56 : decode cX12_rankHere 56 = .ok (.invokevirtual 335, 3) := by decide +kernel
theorem dX12_rankHere_59 : decode cX12_rankHere 59 = .ok (.ifCond .ne 12, 3) := by decide +kernel
theorem dX12_rankHere_62 : decode cX12_rankHere 62 = .ok (.aload_n 0, 1) := by decide +kernel
theorem dX12_rankHere_63 : decode cX12_rankHere 63 = .ok (.bipush 45, 2) := by decide +kernel
theorem dX12_rankHere_65 : decode cX12_rankHere 65 = .ok (.invokevirtual 335, 3) := by decide +kernel
theorem dX12_rankHere_68 : decode cX12_rankHere 68 = .ok (.ifCond .eq 5, 3) := by decide +kernel
theorem dX12_rankHere_71 : decode cX12_rankHere 71 = .ok (.iconst 5, 1) := by decide +kernel
theorem dX12_rankHere_72 : decode cX12_rankHere 72 = .ok (.ireturn, 1) := by decide +kernel
theorem dX12_rankHere_73 : decode cX12_rankHere 73 = .ok (.aload_n 0, 1) := by decide +kernel
theorem dX12_rankHere_74 : decode cX12_rankHere 74 = .ok (.bipush 42, 2) := by decide +kernel
theorem dX12_rankHere_76 : decode cX12_rankHere 76 = .ok (.invokevirtual 335, 3) := by decide +kernel
theorem dX12_rankHere_79 : decode cX12_rankHere 79 = .ok (.ifCond .ne 21, 3) := by decide +kernel
theorem dX12_rankHere_82 : decode cX12_rankHere 82 = .ok (.aload_n 0, 1) := by decide +kernel
theorem dX12_rankHere_83 : decode cX12_rankHere 83 = .ok (.bipush 47, 2) := by decide +kernel
theorem dX12_rankHere_85 : decode cX12_rankHere 85 = .ok (.invokevirtual 335, 3) := by decide +kernel
theorem dX12_rankHere_88 : decode cX12_rankHere 88 = .ok (.ifCond .ne 12, 3) := by decide +kernel
theorem dX12_rankHere_91 : decode cX12_rankHere 91 = .ok (.aload_n 0, 1) := by decide +kernel
theorem dX12_rankHere_92 : decode cX12_rankHere 92 = .ok (.bipush 37, 2) := by decide +kernel
theorem dX12_rankHere_94 : decode cX12_rankHere 94 = .ok (.invokevirtual 335, 3) := by decide +kernel
theorem dX12_rankHere_97 : decode cX12_rankHere 97 = .ok (.ifCond .eq 8, 3) := by decide +kernel
theorem dX12_rankHere_100 : decode cX12_rankHere 100 = .ok (.bipush 6, 2) := by decide +kernel
theorem dX12_rankHere_102 : decode cX12_rankHere 102 = .ok (.goto 4, 3) := by decide +kernel
theorem dX12_rankHere_105 : decode cX12_rankHere 105 = .ok (.iconst 0, 1) := by decide +kernel
theorem dX12_rankHere_106 : decode cX12_rankHere 106 = .ok (.ireturn, 1) := by decide +kernel
abbrev mi_X12_rankHere : MI := (zTM, RX12, yX12_rankHere, cX12_rankHere, 1, (some .int), 4)
theorem cal_X12_rankHere : zCalV mi_X12_rankHere 0 := ⟨⟨zTB_i8 30 (by decide +kernel), zTB_i8 29 (by decide +kernel), zTB_i0 76 (by decide +kernel), zTB_i1 13 (by decide +kernel)⟩, ⟨by decide, by decide, by decide +kernel⟩, by decide⟩
noncomputable def X12_rankHere (M : Mem) : Option (Int32) :=
  if (X12_isWord 6385252 M) = true then
    some 2
  else
  if (X12_isWord 28530 M) = true then
    some 1
  else
  bo_ (X12_isSignHere 60 M) fun b3 =>
  if b3 = true then
    some 4
  else
  bo_ (X12_isSignHere 62 M) fun b5 =>
  if b5 = true then
    some 4
  else
  bo_ (X12_isSignHere 61 M) fun b7 =>
  if b7 = true then
    some 4
  else
  bo_ (X12_isSignHere 43 M) fun b9 =>
  if b9 = true then
    some 5
  else
  bo_ (X12_isSignHere 45 M) fun b11 =>
  if b11 = true then
    some 5
  else
  bo_ (X12_isSignHere 42 M) fun b13 =>
  if b13 = true then
    some 6
  else
  bo_ (X12_isSignHere 47 M) fun b15 =>
  if b15 = true then
    some 6
  else
  bo_ (X12_isSignHere 37 M) fun b17 =>
  if b17 = true then
    some 6
  else
  some 0
set_option maxRecDepth 100000 in
set_option maxHeartbeats 4000000 in
theorem X12_rankHere_ok (G : Gh) (M : Mem) : Mt G mi_X12_rankHere [.ref (G.2.2.2 (0))] M ((dO (dI M)) (X12_rankHere M)) := by
  refine Mt_of (lv := [some (.ref (G.2.2.2 (0)))]) (by decide) rfl (Nat.le_of_ble_eq_true rfl) rfl ?_
  unfold X12_rankHere
  refine r_aload_n dX12_rankHere_0 rfl ?_
  refine r_ldc2 (x := 6385252) dX12_rankHere_1 lkc_X12_229 ?_
  refine c_Z (inv_V (mi := mi_X12_rankHere) (b := 0) (rest := []) (X12_isWord_ok G 6385252 M) rfl (by decide) dX12_rankHere_4 lkm_X12_281 cal_X12_isWord cM_0 rfl rfl (Nat.le_of_ble_eq_true rfl) rfl) ?_
  refine r_ifz_eq (tgt := 12) dX12_rankHere_7 rfl (fun h1 => ?_) (fun h1 => ?_)
  · refine r_iconst (x := 2) dX12_rankHere_10 rfl ?_
    exact r_iret (ty := .int) dX12_rankHere_11 rfl rfl rfl
  refine r_aload_n dX12_rankHere_12 rfl ?_
  refine r_ldc2 (x := 28530) dX12_rankHere_13 lkc_X12_227 ?_
  refine c_Z (inv_V (mi := mi_X12_rankHere) (b := 0) (rest := []) (X12_isWord_ok G 28530 M) rfl (by decide) dX12_rankHere_16 lkm_X12_281 cal_X12_isWord cM_0 rfl rfl (Nat.le_of_ble_eq_true rfl) rfl) ?_
  refine r_ifz_eq (tgt := 24) dX12_rankHere_19 rfl (fun h2 => ?_) (fun h2 => ?_)
  · refine r_iconst (x := 1) dX12_rankHere_22 rfl ?_
    exact r_iret (ty := .int) dX12_rankHere_23 rfl rfl rfl
  refine r_aload_n dX12_rankHere_24 rfl ?_
  refine r_bipush (x := 60) dX12_rankHere_25 rfl ?_
  refine c_OZ rfl (inv_V (mi := mi_X12_rankHere) (b := 0) (rest := []) (X12_isSignHere_ok G 60 M) rfl (by decide) dX12_rankHere_27 lkm_X12_335 cal_X12_isSignHere cM_0 rfl rfl (Nat.le_of_ble_eq_true rfl) rfl) (fun b3 => ?_)
  refine r_ifz_ne (tgt := 51) dX12_rankHere_30 rfl (fun h4 => ?_) (fun h4 => ?_)
  · refine r_iconst (x := 4) dX12_rankHere_51 rfl ?_
    exact r_iret (ty := .int) dX12_rankHere_52 rfl rfl rfl
  refine r_aload_n dX12_rankHere_33 rfl ?_
  refine r_bipush (x := 62) dX12_rankHere_34 rfl ?_
  refine c_OZ rfl (inv_V (mi := mi_X12_rankHere) (b := 0) (rest := []) (X12_isSignHere_ok G 62 M) rfl (by decide) dX12_rankHere_36 lkm_X12_335 cal_X12_isSignHere cM_0 rfl rfl (Nat.le_of_ble_eq_true rfl) rfl) (fun b5 => ?_)
  refine r_ifz_ne (tgt := 51) dX12_rankHere_39 rfl (fun h6 => ?_) (fun h6 => ?_)
  · refine r_iconst (x := 4) dX12_rankHere_51 rfl ?_
    exact r_iret (ty := .int) dX12_rankHere_52 rfl rfl rfl
  refine r_aload_n dX12_rankHere_42 rfl ?_
  refine r_bipush (x := 61) dX12_rankHere_43 rfl ?_
  refine c_OZ rfl (inv_V (mi := mi_X12_rankHere) (b := 0) (rest := []) (X12_isSignHere_ok G 61 M) rfl (by decide) dX12_rankHere_45 lkm_X12_335 cal_X12_isSignHere cM_0 rfl rfl (Nat.le_of_ble_eq_true rfl) rfl) (fun b7 => ?_)
  refine r_ifz_eq (tgt := 53) dX12_rankHere_48 rfl (fun h8 => ?_) (fun h8 => ?_)
  · refine r_iconst (x := 4) dX12_rankHere_51 rfl ?_
    exact r_iret (ty := .int) dX12_rankHere_52 rfl rfl rfl
  refine r_aload_n dX12_rankHere_53 rfl ?_
  refine r_bipush (x := 43) dX12_rankHere_54 rfl ?_
  refine c_OZ rfl (inv_V (mi := mi_X12_rankHere) (b := 0) (rest := []) (X12_isSignHere_ok G 43 M) rfl (by decide) dX12_rankHere_56 lkm_X12_335 cal_X12_isSignHere cM_0 rfl rfl (Nat.le_of_ble_eq_true rfl) rfl) (fun b9 => ?_)
  refine r_ifz_ne (tgt := 71) dX12_rankHere_59 rfl (fun h10 => ?_) (fun h10 => ?_)
  · refine r_iconst (x := 5) dX12_rankHere_71 rfl ?_
    exact r_iret (ty := .int) dX12_rankHere_72 rfl rfl rfl
  refine r_aload_n dX12_rankHere_62 rfl ?_
  refine r_bipush (x := 45) dX12_rankHere_63 rfl ?_
  refine c_OZ rfl (inv_V (mi := mi_X12_rankHere) (b := 0) (rest := []) (X12_isSignHere_ok G 45 M) rfl (by decide) dX12_rankHere_65 lkm_X12_335 cal_X12_isSignHere cM_0 rfl rfl (Nat.le_of_ble_eq_true rfl) rfl) (fun b11 => ?_)
  refine r_ifz_eq (tgt := 73) dX12_rankHere_68 rfl (fun h12 => ?_) (fun h12 => ?_)
  · refine r_iconst (x := 5) dX12_rankHere_71 rfl ?_
    exact r_iret (ty := .int) dX12_rankHere_72 rfl rfl rfl
  refine r_aload_n dX12_rankHere_73 rfl ?_
  refine r_bipush (x := 42) dX12_rankHere_74 rfl ?_
  refine c_OZ rfl (inv_V (mi := mi_X12_rankHere) (b := 0) (rest := []) (X12_isSignHere_ok G 42 M) rfl (by decide) dX12_rankHere_76 lkm_X12_335 cal_X12_isSignHere cM_0 rfl rfl (Nat.le_of_ble_eq_true rfl) rfl) (fun b13 => ?_)
  refine r_ifz_ne (tgt := 100) dX12_rankHere_79 rfl (fun h14 => ?_) (fun h14 => ?_)
  · refine r_bipush (x := 6) dX12_rankHere_100 rfl ?_
    refine r_goto (tgt := 106) dX12_rankHere_102 rfl ?_
    exact r_iret (ty := .int) dX12_rankHere_106 rfl rfl rfl
  refine r_aload_n dX12_rankHere_82 rfl ?_
  refine r_bipush (x := 47) dX12_rankHere_83 rfl ?_
  refine c_OZ rfl (inv_V (mi := mi_X12_rankHere) (b := 0) (rest := []) (X12_isSignHere_ok G 47 M) rfl (by decide) dX12_rankHere_85 lkm_X12_335 cal_X12_isSignHere cM_0 rfl rfl (Nat.le_of_ble_eq_true rfl) rfl) (fun b15 => ?_)
  refine r_ifz_ne (tgt := 100) dX12_rankHere_88 rfl (fun h16 => ?_) (fun h16 => ?_)
  · refine r_bipush (x := 6) dX12_rankHere_100 rfl ?_
    refine r_goto (tgt := 106) dX12_rankHere_102 rfl ?_
    exact r_iret (ty := .int) dX12_rankHere_106 rfl rfl rfl
  refine r_aload_n dX12_rankHere_91 rfl ?_
  refine r_bipush (x := 37) dX12_rankHere_92 rfl ?_
  refine c_OZ rfl (inv_V (mi := mi_X12_rankHere) (b := 0) (rest := []) (X12_isSignHere_ok G 37 M) rfl (by decide) dX12_rankHere_94 lkm_X12_335 cal_X12_isSignHere cM_0 rfl rfl (Nat.le_of_ble_eq_true rfl) rfl) (fun b17 => ?_)
  refine r_ifz_eq (tgt := 105) dX12_rankHere_97 rfl (fun h18 => ?_) (fun h18 => ?_)
  · refine r_bipush (x := 6) dX12_rankHere_100 rfl ?_
    refine r_goto (tgt := 106) dX12_rankHere_102 rfl ?_
    exact r_iret (ty := .int) dX12_rankHere_106 rfl rfl rfl
  refine r_iconst (x := 0) dX12_rankHere_105 rfl ?_
  exact r_iret (ty := .int) dX12_rankHere_106 rfl rfl rfl

