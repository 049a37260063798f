theorem dX5_isAsAhead_0 : decode cX5_isAsAhead 0 = .ok (.iconst 0, 1) := by decide +kernel
theorem dX5_isAsAhead_1 : decode cX5_isAsAhead 1 = .ok (.istore_n 1, 1) := by decide +kernel
theorem dX5_isAsAhead_2 : decode cX5_isAsAhead 2 = .ok (.iload_n 1, 1) := by decide +kernel
theorem dX5_isAsAhead_3 : decode cX5_isAsAhead 3 = .ok (.bipush 15, 2) := by decide +kernel
theorem dX5_isAsAhead_5 : decode cX5_isAsAhead 5 = .ok (.if_icmp .ge 30, 3) := by decide +kernel
theorem dX5_isAsAhead_8 : decode cX5_isAsAhead 8 = .ok (.aload_n 0, 1) := by decide +kernel
theorem dX5_isAsAhead_9 : decode cX5_isAsAhead 9 = .ok (.getfield 9, 3) := by decide +kernel
theorem dX5_isAsAhead_12 : decode cX5_isAsAhead 12 = .ok (.iload_n 1, 1) := by decide +kernel
theorem dX5_isAsAhead_13 : decode cX5_isAsAhead 13 = .ok (.invokestatic 107, 3) := by decide +kernel
theorem dX5_isAsAhead_16 : decode cX5_isAsAhead 16 = .ok (.aload_n 0, 1) := by decide +kernel
theorem dX5_isAsAhead_17 : decode cX5_isAsAhead 17 = .ok (.getfield 18, 3) := by decide +kernel
theorem dX5_isAsAhead_20 : decode cX5_isAsAhead 20 = .ok (.iload_n 1, 1) := by decide +kernel
theorem dX5_isAsAhead_21 : decode cX5_isAsAhead 21 = .ok (.invokestatic 107, 3) := by decide +kernel
theorem dX5_isAsAhead_24 : decode cX5_isAsAhead 24 = .ok (.if_icmp .eq 5, 3) := by decide +kernel
theorem dX5_isAsAhead_27 : decode cX5_isAsAhead 27 = .ok (.iconst 0, 1) := by decide +kernel
theorem dX5_isAsAhead_28 : decode cX5_isAsAhead 28 = .ok (.ireturn, 1) := by decide +kernel
theorem dX5_isAsAhead_29 : decode cX5_isAsAhead 29 = .ok (.iinc 1 1, 3) := by decide +kernel
theorem dX5_isAsAhead_32 : decode cX5_isAsAhead 32 = .ok (.goto (-30), 3) := by decide +kernel
theorem dX5_isAsAhead_35 : decode cX5_isAsAhead 35 = .ok (.iconst 1, 1) := by decide +kernel
theorem dX5_isAsAhead_36 : decode cX5_isAsAhead 36 = .ok (.ireturn, 1) := by decide +kernel
abbrev mi_X5_isAsAhead : MI := (zTX, RX5, yX5_isAsAhead, cX5_isAsAhead, 2, (some .boolean), 3)
theorem cal_X5_isAsAhead : zCalV mi_X5_isAsAhead 0 := ⟨⟨zTB_i5 130 (by decide +kernel), zTB_i5 129 (by decide +kernel), zTB_i0 38 (by decide +kernel), zTB_i1 10 (by decide +kernel)⟩, ⟨by decide, by decide, by decide +kernel⟩, by decide⟩
noncomputable def X5_isAsAhead_L1 (M : Mem) : Nat → Int32 → Option (Bool)
  | 0, _ => none
  | n + 1, c1 =>
    if 15 ≤ c1 then
      some true
    else
    if (X11_cell 46 c1 M) = (X11_cell 48 c1 M) then
      X5_isAsAhead_L1 M n (c1 + 1)
    else
    some false
noncomputable def X5_isAsAhead (M : Mem) : Option (Bool) :=
  X5_isAsAhead_L1 M zFU 0
set_option maxRecDepth 100000 in
set_option maxHeartbeats 4000000 in
theorem X5_isAsAhead_L1_ok (G : Gh) (M : Mem) : ∀ (n : Nat) (c1 : Int32), Wr G mi_X5_isAsAhead (dO (dZ M)) 2 [some (.ref (G.2.2.2 (41))), some (.int c1)] [] M (X5_isAsAhead_L1 M n c1) := by
  intro n
  induction n with
  | zero => intro c1; exact r_none rfl
  | succ n ih =>
    intro c1
    rw [X5_isAsAhead_L1]
    refine r_iload_n dX5_isAsAhead_2 rfl ?_
    refine r_bipush (x := 15) dX5_isAsAhead_3 rfl ?_
    refine r_icmp_ge (tgt := 35) dX5_isAsAhead_5 rfl (fun h1 => ?_) (fun h1 => ?_)
    · refine r_iconst (x := 1) dX5_isAsAhead_35 rfl ?_
      exact r_iret (ty := .boolean) dX5_isAsAhead_36 rfl rfl rfl
    refine r_aload_n dX5_isAsAhead_8 rfl ?_
    refine r_getf (v := .ref (G.2.2.2 (46))) dX5_isAsAhead_9 fX_41_3 kX5 (by decide) lkf_X5_9 rfl ?_
    refine r_iload_n dX5_isAsAhead_12 rfl ?_
    refine c_I (inv_SN (mi := mi_X5_isAsAhead) (rest := []) (X11_cell_ok G aX_46p c1 M) rfl (by decide) dX5_isAsAhead_13 lkm_X5_107 cal_X11_cell rfl (Nat.le_of_ble_eq_true rfl) rfl) ?_
    refine r_aload_n dX5_isAsAhead_16 rfl ?_
    refine r_getf (v := .ref (G.2.2.2 (48))) dX5_isAsAhead_17 fX_41_5 kX5 (by decide) lkf_X5_18 rfl ?_
    refine r_iload_n dX5_isAsAhead_20 rfl ?_
    refine c_I (inv_SN (mi := mi_X5_isAsAhead) (rest := [.int ((X11_cell 46 c1 M))]) (X11_cell_ok G aX_48p c1 M) rfl (by decide) dX5_isAsAhead_21 lkm_X5_107 cal_X11_cell rfl (Nat.le_of_ble_eq_true rfl) rfl) ?_
    refine r_icmp_eq (tgt := 29) dX5_isAsAhead_24 rfl (fun h2 => ?_) (fun h2 => ?_)
    · refine r_iinc (y := c1 + 1) (lv' := [some (.ref (G.2.2.2 (41))), some (.int (c1 + 1))]) dX5_isAsAhead_29 rfl rfl (Nat.le_of_ble_eq_true rfl) rfl rfl ?_
      refine r_goto (tgt := 2) dX5_isAsAhead_32 rfl ?_
      exact r_lk (ih (c1 + 1)) (And.intro rfl (And.intro rfl True.intro))
    refine r_iconst (x := 0) dX5_isAsAhead_27 rfl ?_
    exact r_iret (ty := .boolean) dX5_isAsAhead_28 rfl rfl rfl
set_option maxRecDepth 100000 in
set_option maxHeartbeats 4000000 in
theorem X5_isAsAhead_ok (G : Gh) (M : Mem) : Mt G mi_X5_isAsAhead [.ref (G.2.2.2 (41))] M ((dO (dZ M)) (X5_isAsAhead M)) := by
  refine Mt_of (lv := [some (.ref (G.2.2.2 (41)))]) (by decide) rfl (Nat.le_of_ble_eq_true rfl) rfl ?_
  refine r_le (lv' := [some (.ref (G.2.2.2 (41))), none]) (And.intro rfl True.intro) ?_
  unfold X5_isAsAhead
  refine r_iconst (x := 0) dX5_isAsAhead_0 rfl ?_
  refine r_istore_n (lv' := [some (.ref (G.2.2.2 (41))), some (.int 0)]) dX5_isAsAhead_1 (Nat.le_of_ble_eq_true rfl) rfl rfl ?_
  exact r_lk (X5_isAsAhead_L1_ok G M zFU 0) (And.intro rfl (And.intro rfl True.intro))

theorem dX5_roundsToRest_0 : decode cX5_roundsToRest 0 = .ok (.aload_n 0, 1) := by decide +kernel
theorem dX5_roundsToRest_1 : decode cX5_roundsToRest 1 = .ok (.invokevirtual 43, 3) := by decide +kernel
theorem dX5_roundsToRest_4 : decode cX5_roundsToRest 4 = .ok (.iconst 0, 1) := by decide +kernel
theorem dX5_roundsToRest_5 : decode cX5_roundsToRest 5 = .ok (.istore_n 1, 1) := by decide +kernel
theorem dX5_roundsToRest_6 : decode cX5_roundsToRest 6 = .ok (.iload_n 1, 1) := by decide +kernel
theorem dX5_roundsToRest_7 : decode cX5_roundsToRest 7 = .ok (.bipush 20, 2) := by decide +kernel
theorem dX5_roundsToRest_9 : decode cX5_roundsToRest 9 = .ok (.if_icmp .gt 60, 3) := by decide +kernel
theorem dX5_roundsToRest_12 : decode cX5_roundsToRest 12 = .ok (.aload_n 0, 1) := by decide +kernel
theorem dX5_roundsToRest_13 : decode cX5_roundsToRest 13 = .ok (.getfield 9, 3) := by decide +kernel
theorem dX5_roundsToRest_16 : decode cX5_roundsToRest 16 = .ok (.aload_n 0, 1) := by decide +kernel
theorem dX5_roundsToRest_17 : decode cX5_roundsToRest 17 = .ok (.getfield 18, 3) := by decide +kernel
theorem dX5_roundsToRest_20 : decode cX5_roundsToRest 20 = .ok (.invokestatic 97, 3) := by decide +kernel
theorem dX5_roundsToRest_23 : decode cX5_roundsToRest 23 = .ok (.iconst 0, 1) := by decide +kernel
theorem dX5_roundsToRest_24 : decode cX5_roundsToRest 24 = .ok (.istore_n 2, 1) := by decide +kernel
theorem dX5_roundsToRest_25 : decode cX5_roundsToRest 25 = .ok (.iload_n 2, 1) := by decide +kernel
theorem dX5_roundsToRest_26 : decode cX5_roundsToRest 26 = .ok (.aload_n 0, 1) := by decide +kernel
theorem dX5_roundsToRest_27 : decode cX5_roundsToRest 27 = .ok (.getfield 27, 3) := by decide +kernel
theorem dX5_roundsToRest_30 : decode cX5_roundsToRest 30 = .ok (.getfield 62, 3) := by decide +kernel
theorem dX5_roundsToRest_33 : decode cX5_roundsToRest 33 = .ok (.if_icmp .ge 21, 3) := by decide +kernel
theorem dX5_roundsToRest_36 : decode cX5_roundsToRest 36 = .ok (.aload_n 0, 1) := by decide +kernel
theorem dX5_roundsToRest_37 : decode cX5_roundsToRest 37 = .ok (.aload_n 0, 1) := by decide +kernel
theorem dX5_roundsToRest_38 : decode cX5_roundsToRest 38 = .ok (.getfield 31, 3) := by decide +kernel
theorem dX5_roundsToRest_41 : decode cX5_roundsToRest 41 = .ok (.iload_n 2, 1) := by decide +kernel
theorem dX5_roundsToRest_42 : decode cX5_roundsToRest 42 = .ok (.iconst 0, 1) := by decide +kernel
theorem dX5_roundsToRest_43 : decode cX5_roundsToRest 43 = .ok (.iconst 0, 1) := by decide +kernel
theorem dX5_roundsToRest_44 : decode cX5_roundsToRest 44 = .ok (.invokevirtual 46, 3) := by decide +kernel
theorem dX5_roundsToRest_47 : decode cX5_roundsToRest 47 = .ok (.pop, 1) := by decide +kernel
theorem dX5_roundsToRest_48 : decode cX5_roundsToRest 48 = .ok (.iinc 2 1, 3) := by decide +kernel
theorem dX5_roundsToRest_51 : decode cX5_roundsToRest 51 = .ok (.goto (-26), 3) := by decide +kernel
theorem dX5_roundsToRest_54 : decode cX5_roundsToRest 54 = .ok (.aload_n 0, 1) := by decide +kernel
theorem dX5_roundsToRest_55 : decode cX5_roundsToRest 55 = .ok (.invokevirtual 120, 3) := by decide +kernel
theorem dX5_roundsToRest_58 : decode cX5_roundsToRest 58 = .ok (.ifCond .eq 5, 3) := by decide +kernel
theorem dX5_roundsToRest_61 : decode cX5_roundsToRest 61 = .ok (.iload_n 1, 1) := by decide +kernel
theorem dX5_roundsToRest_62 : decode cX5_roundsToRest 62 = .ok (.ireturn, 1) := by decide +kernel
theorem dX5_roundsToRest_63 : decode cX5_roundsToRest 63 = .ok (.iinc 1 1, 3) := by decide +kernel
theorem dX5_roundsToRest_66 : decode cX5_roundsToRest 66 = .ok (.goto (-60), 3) := by decide +kernel
theorem dX5_roundsToRest_69 : decode cX5_roundsToRest 69 = .ok (.iconst (-1), 1) := by decide +kernel
theorem dX5_roundsToRest_70 : decode cX5_roundsToRest 70 = .ok (.ireturn, 1) := by decide +kernel
abbrev mi_X5_roundsToRest : MI := (zTX, RX5, yX5_roundsToRest, cX5_roundsToRest, 3, (some .int), 13)
theorem cal_X5_roundsToRest : zCalV mi_X5_roundsToRest 0 := ⟨⟨zTB_i5 126 (by decide +kernel), zTB_i5 124 (by decide +kernel), zTB_i5 125 (by decide +kernel), zTB_i1 10 (by decide +kernel)⟩, ⟨by decide, by decide, by decide +kernel⟩, by decide⟩
noncomputable def X5_roundsToRest_L2 : Nat → Int32 → Mem → Option (Mem)
  | 0, _, _ => none
  | n + 1, c2, M =>
    if (M.1 23 0) ≤ c2 then
      some M
    else
    bp_ (X5_seek 35 c2 0 0 M) fun v5 M6 =>
    X5_roundsToRest_L2 n (c2 + 1) M6
noncomputable def X5_roundsToRest_L1 : Nat → Int32 → Mem → Option (Int32 × Mem)
  | 0, _, _ => none
  | n + 1, c1, M =>
    if 20 < c1 then
      some ((-1), M)
    else
    bo_ (X11_copyInts 46 48 M) fun M3 =>
    b1_ (α := Mem) (X5_roundsToRest_L2 zFU 0 M3) fun M7 =>
    bo_ (X5_isAsAhead M7) fun b8 =>
    if b8 = true then
      some (c1, M7)
    else
    X5_roundsToRest_L1 n (c1 + 1) M7
noncomputable def X5_roundsToRest (M : Mem) : Option (Int32 × Mem) :=
  bo_ (X5_clearRows M) fun M1 =>
  X5_roundsToRest_L1 zFU 0 M1
set_option maxRecDepth 100000 in
set_option maxHeartbeats 4000000 in
theorem X5_roundsToRest_L2_ok (G : Gh) (c1 : Int32) {dn : Option (Mem) → Option (Option Value × Mem)} (hs : dn none = none) (hx : ∀ (M7 : Mem), Wr G mi_X5_roundsToRest dn 54 [some (.ref (G.2.2.2 (41))), some (.int c1), none] [] M7 (some M7)) : ∀ (n : Nat) (c2 : Int32) (M : Mem), Wr G mi_X5_roundsToRest dn 25 [some (.ref (G.2.2.2 (41))), some (.int c1), some (.int c2)] [] M (X5_roundsToRest_L2 n c2 M) := by
  intro n
  induction n with
  | zero => intro c2 M; exact r_none (by exact hs)
  | succ n ih =>
    intro c2 M
    rw [X5_roundsToRest_L2]
    refine r_iload_n dX5_roundsToRest_25 rfl ?_
    refine r_aload_n dX5_roundsToRest_26 rfl ?_
    refine r_getf (v := .ref (G.2.2.2 (23))) dX5_roundsToRest_27 fX_41_0 kX5 (by decide) lkf_X5_27 rfl ?_
    refine r_getf (v := .int (M.1 23 0)) dX5_roundsToRest_30 fX_23_0 kX3 (by decide) lkf_X5_62 rfl ?_
    refine r_icmp_ge (tgt := 54) dX5_roundsToRest_33 rfl (fun h4 => ?_) (fun h4 => ?_)
    · exact r_lk (hx M) (And.intro rfl (And.intro rfl True.intro))
    refine r_aload_n dX5_roundsToRest_36 rfl ?_
    refine r_aload_n dX5_roundsToRest_37 rfl ?_
    refine r_getf (v := .ref (G.2.2.2 (35))) dX5_roundsToRest_38 fX_41_1 kX5 (by decide) lkf_X5_31 rfl ?_
    refine r_iload_n dX5_roundsToRest_41 rfl ?_
    refine r_iconst (x := 0) dX5_roundsToRest_42 rfl ?_
    refine r_iconst (x := 0) dX5_roundsToRest_43 rfl ?_
    refine c_OIM (by exact hs) (inv_V (mi := mi_X5_roundsToRest) (b := 41) (rest := []) (X5_seek_ok_35 G c2 0 0 M) rfl (by decide) dX5_roundsToRest_44 lkm_X5_46 cal_X5_seek cX_41 rfl rfl (Nat.le_of_ble_eq_true rfl) rfl) (fun v5 M6 => ?_)
    refine r_pop dX5_roundsToRest_47 rfl ?_
    refine r_iinc (y := c2 + 1) (lv' := [some (.ref (G.2.2.2 (41))), some (.int c1), some (.int (c2 + 1))]) dX5_roundsToRest_48 rfl rfl (Nat.le_of_ble_eq_true rfl) rfl rfl ?_
    refine r_goto (tgt := 25) dX5_roundsToRest_51 rfl ?_
    exact r_lk (ih (c2 + 1) M6) (And.intro rfl (And.intro rfl (And.intro rfl True.intro)))
set_option maxRecDepth 100000 in
set_option maxHeartbeats 4000000 in
theorem X5_roundsToRest_L1_ok (G : Gh) : ∀ (n : Nat) (c1 : Int32) (M : Mem), Wr G mi_X5_roundsToRest (dO dIM) 6 [some (.ref (G.2.2.2 (41))), some (.int c1), none] [] M (X5_roundsToRest_L1 n c1 M) := by
  intro n
  induction n with
  | zero => intro c1 M; exact r_none rfl
  | succ n ih =>
    intro c1 M
    rw [X5_roundsToRest_L1]
    refine r_iload_n dX5_roundsToRest_6 rfl ?_
    refine r_bipush (x := 20) dX5_roundsToRest_7 rfl ?_
    refine r_icmp_gt (tgt := 69) dX5_roundsToRest_9 rfl (fun h2 => ?_) (fun h2 => ?_)
    · refine r_iconst (x := (-1)) dX5_roundsToRest_69 rfl ?_
      exact r_iret (ty := .int) dX5_roundsToRest_70 rfl rfl rfl
    refine r_aload_n dX5_roundsToRest_12 rfl ?_
    refine r_getf (v := .ref (G.2.2.2 (46))) dX5_roundsToRest_13 fX_41_3 kX5 (by decide) lkf_X5_9 rfl ?_
    refine r_aload_n dX5_roundsToRest_16 rfl ?_
    refine r_getf (v := .ref (G.2.2.2 (48))) dX5_roundsToRest_17 fX_41_5 kX5 (by decide) lkf_X5_18 rfl ?_
    refine c_OV rfl (inv_SN (mi := mi_X5_roundsToRest) (rest := []) (X11_copyInts_ok G aX_46p aX_48p M) rfl (by decide) dX5_roundsToRest_20 lkm_X5_97 cal_X11_copyInts rfl (Nat.le_of_ble_eq_true rfl) rfl) (fun M3 => ?_)
    refine r_iconst (x := 0) dX5_roundsToRest_23 rfl ?_
    refine r_istore_n (lv' := [some (.ref (G.2.2.2 (41))), some (.int c1), some (.int 0)]) dX5_roundsToRest_24 (Nat.le_of_ble_eq_true rfl) rfl rfl ?_
    refine r_jB1 (j := 54) (lvj := fun M7 => [some (.ref (G.2.2.2 (41))), some (.int c1), none]) (stj := fun M7 => []) (Mj := fun M7 => M7) (fun M7 => ?_) (fun hj54 => ?_)
    · refine r_aload_n dX5_roundsToRest_54 rfl ?_
      refine c_OZ rfl (inv_V (mi := mi_X5_roundsToRest) (b := 41) (rest := []) (X5_isAsAhead_ok G M7) rfl (by decide) dX5_roundsToRest_55 lkm_X5_120 cal_X5_isAsAhead cX_41 rfl rfl (Nat.le_of_ble_eq_true rfl) rfl) (fun b8 => ?_)
      refine r_ifz_eq (tgt := 63) dX5_roundsToRest_58 rfl (fun h9 => ?_) (fun h9 => ?_)
      · refine r_iload_n dX5_roundsToRest_61 rfl ?_
        exact r_iret (ty := .int) dX5_roundsToRest_62 rfl rfl rfl
      refine r_iinc (y := c1 + 1) (lv' := [some (.ref (G.2.2.2 (41))), some (.int (c1 + 1)), none]) dX5_roundsToRest_63 rfl rfl (Nat.le_of_ble_eq_true rfl) rfl rfl ?_
      refine r_goto (tgt := 6) dX5_roundsToRest_66 rfl ?_
      exact r_lk (ih (c1 + 1) M7) (And.intro rfl (And.intro rfl True.intro))
    exact r_lk (X5_roundsToRest_L2_ok G c1 rfl hj54 zFU 0 M3) (And.intro rfl (And.intro rfl (And.intro rfl True.intro)))
set_option maxRecDepth 100000 in
set_option maxHeartbeats 4000000 in
theorem X5_roundsToRest_ok (G : Gh) (M : Mem) : Mt G mi_X5_roundsToRest [.ref (G.2.2.2 (41))] M ((dO dIM) (X5_roundsToRest M)) := by
  refine Mt_of (lv := [some (.ref (G.2.2.2 (41)))]) (by decide) rfl (Nat.le_of_ble_eq_true rfl) rfl ?_
  refine r_le (lv' := [some (.ref (G.2.2.2 (41))), none, none]) (And.intro rfl True.intro) ?_
  unfold X5_roundsToRest
  refine r_aload_n dX5_roundsToRest_0 rfl ?_
  refine c_OV rfl (inv_V (mi := mi_X5_roundsToRest) (b := 41) (rest := []) (X5_clearRows_ok G M) rfl (by decide) dX5_roundsToRest_1 lkm_X5_43 cal_X5_clearRows cX_41 rfl rfl (Nat.le_of_ble_eq_true rfl) rfl) (fun M1 => ?_)
  refine r_iconst (x := 0) dX5_roundsToRest_4 rfl ?_
  refine r_istore_n (lv' := [some (.ref (G.2.2.2 (41))), some (.int 0), none]) dX5_roundsToRest_5 (Nat.le_of_ble_eq_true rfl) rfl rfl ?_
  exact r_lk (X5_roundsToRest_L1_ok G zFU 0 M1) (And.intro rfl (And.intro rfl True.intro))

theorem dX11_rest_0 : decode cX11_rest 0 = .ok (.aload_n 0, 1) := by decide +kernel
theorem dX11_rest_1 : decode cX11_rest 1 = .ok (.getfield 62, 3) := by decide +kernel
theorem dX11_rest_4 : decode cX11_rest 4 = .ok (.invokevirtual 105, 3) := by decide +kernel
theorem dX11_rest_7 : decode cX11_rest 7 = .ok (.aload_n 0, 1) := by decide +kernel
theorem dX11_rest_8 : decode cX11_rest 8 = .ok (.getfield 55, 3) := by decide +kernel
theorem dX11_rest_11 : decode cX11_rest 11 = .ok (.invokevirtual 232, 3) := by decide +kernel
theorem dX11_rest_14 : decode cX11_rest 14 = .ok (.istore_n 1, 1) := by decide +kernel
theorem dX11_rest_15 : decode cX11_rest 15 = .ok (.iload_n 1, 1) := by decide +kernel
theorem dX11_rest_16 : decode cX11_rest 16 = .ok (.iconst (-1), 1) := by decide +kernel
theorem dX11_rest_17 : decode cX11_rest 17 = .ok (.if_icmp .ne 5, 3) := by decide +kernel
theorem dX11_rest_20 : decode cX11_rest 20 = .ok (.iconst (-1), 1) := by decide +kernel
theorem dX11_rest_21 : decode cX11_rest 21 = .ok (.ireturn, 1) := by decide +kernel
theorem dX11_rest_22 : decode cX11_rest 22 = .ok (.iconst 0, 1) := by decide +kernel
theorem dX11_rest_23 : decode cX11_rest 23 = .ok (.istore_n 2, 1) := by decide +kernel
theorem dX11_rest_24 : decode cX11_rest 24 = .ok (.iload_n 2, 1) := by decide +kernel
theorem dX11_rest_25 : decode cX11_rest 25 = .ok (.aload_n 0, 1) := by decide +kernel
theorem dX11_rest_26 : decode cX11_rest 26 = .ok (.getfield 28, 3) := by decide +kernel
theorem dX11_rest_29 : decode cX11_rest 29 = .ok (.getfield 109, 3) := by decide +kernel
theorem dX11_rest_32 : decode cX11_rest 32 = .ok (.if_icmp .ge 24, 3) := by decide +kernel
theorem dX11_rest_35 : decode cX11_rest 35 = .ok (.aload_n 0, 1) := by decide +kernel
theorem dX11_rest_36 : decode cX11_rest 36 = .ok (.getfield 62, 3) := by decide +kernel
theorem dX11_rest_39 : decode cX11_rest 39 = .ok (.aload_n 0, 1) := by decide +kernel
theorem dX11_rest_40 : decode cX11_rest 40 = .ok (.getfield 55, 3) := by decide +kernel
theorem dX11_rest_43 : decode cX11_rest 43 = .ok (.iload_n 2, 1) := by decide +kernel
theorem dX11_rest_44 : decode cX11_rest 44 = .ok (.invokevirtual 211, 3) := by decide +kernel
theorem dX11_rest_47 : decode cX11_rest 47 = .ok (.invokevirtual 235, 3) := by decide +kernel
theorem dX11_rest_50 : decode cX11_rest 50 = .ok (.iinc 2 1, 3) := by decide +kernel
theorem dX11_rest_53 : decode cX11_rest 53 = .ok (.goto (-29), 3) := by decide +kernel
theorem dX11_rest_56 : decode cX11_rest 56 = .ok (.iload_n 1, 1) := by decide +kernel
theorem dX11_rest_57 : decode cX11_rest 57 = .ok (.ireturn, 1) := by decide +kernel
abbrev mi_X11_rest : MI := (zTX, RX11, yX11_rest, cX11_rest, 3, (some .int), 14)
theorem cal_X11_rest : zCalV mi_X11_rest 0 := ⟨⟨zTB_i5 122 (by decide +kernel), zTB_i5 120 (by decide +kernel), zTB_i5 121 (by decide +kernel), zTB_i1 1 (by decide +kernel)⟩, ⟨by decide, by decide, by decide +kernel⟩, by decide⟩
noncomputable def X11_rest_L1 : Nat → Int32 → Mem → Option (Mem)
  | 0, _, _ => none
  | n + 1, c2, M =>
    if (M.1 23 0) ≤ c2 then
      some M
    else
    bo_ (X5_hoursOf c2 M) fun v6 =>
    lt_ (X7_lay v6 M) fun M7 =>
    X11_rest_L1 n (c2 + 1) M7
noncomputable def X11_rest (M : Mem) : Option (Int32 × Mem) :=
  lt_ (X7_clear M) fun M1 =>
  bp_ (X5_roundsToRest M1) fun v2 M3 =>
  if v2 = (-1) then
    some ((-1), M3)
  else
  b1_ (α := Mem) (X11_rest_L1 zFU 0 M3) fun M8 =>
  some (v2, M8)
set_option maxRecDepth 100000 in
set_option maxHeartbeats 4000000 in
theorem X11_rest_L1_ok (G : Gh) (v2 : Int32) {dn : Option (Mem) → Option (Option Value × Mem)} (hs : dn none = none) (hx : ∀ (M8 : Mem), Wr G mi_X11_rest dn 56 [none, some (.int v2), none] [] M8 (some M8)) : ∀ (n : Nat) (c2 : Int32) (M : Mem), Wr G mi_X11_rest dn 24 [some (.ref (G.2.2.2 (0))), some (.int v2), some (.int c2)] [] M (X11_rest_L1 n c2 M) := by
  intro n
  induction n with
  | zero => intro c2 M; exact r_none (by exact hs)
  | succ n ih =>
    intro c2 M
    rw [X11_rest_L1]
    refine r_iload_n dX11_rest_24 rfl ?_
    refine r_aload_n dX11_rest_25 rfl ?_
    refine r_getf (v := .ref (G.2.2.2 (23))) dX11_rest_26 fX_0_2 kX11 (by decide) lkf_X11_28 rfl ?_
    refine r_getf (v := .int (M.1 23 0)) dX11_rest_29 fX_23_0 kX3 (by decide) lkf_X11_109 rfl ?_
    refine r_icmp_ge (tgt := 56) dX11_rest_32 rfl (fun h5 => ?_) (fun h5 => ?_)
    · exact r_lk (hx M) (And.intro rfl True.intro)
    refine r_aload_n dX11_rest_35 rfl ?_
    refine r_getf (v := .ref (G.2.2.2 (51))) dX11_rest_36 fX_0_6 kX11 (by decide) lkf_X11_62 rfl ?_
    refine r_aload_n dX11_rest_39 rfl ?_
    refine r_getf (v := .ref (G.2.2.2 (41))) dX11_rest_40 fX_0_5 kX11 (by decide) lkf_X11_55 rfl ?_
    refine r_iload_n dX11_rest_43 rfl ?_
    refine c_OI (by exact hs) (inv_V (mi := mi_X11_rest) (b := 41) (rest := [.ref (G.2.2.2 (51))]) (X5_hoursOf_ok G c2 M) rfl (by decide) dX11_rest_44 lkm_X11_211 cal_X5_hoursOf cX_41 rfl rfl (Nat.le_of_ble_eq_true rfl) rfl) (fun v6 => ?_)
    refine c_V (inv_V (mi := mi_X11_rest) (b := 51) (rest := []) (X7_lay_ok G v6 M) rfl (by decide) dX11_rest_47 lkm_X11_235 cal_X7_lay cX_51 rfl rfl (Nat.le_of_ble_eq_true rfl) rfl) (fun M7 => ?_)
    refine r_iinc (y := c2 + 1) (lv' := [some (.ref (G.2.2.2 (0))), some (.int v2), some (.int (c2 + 1))]) dX11_rest_50 rfl rfl (Nat.le_of_ble_eq_true rfl) rfl rfl ?_
    refine r_goto (tgt := 24) dX11_rest_53 rfl ?_
    exact r_lk (ih (c2 + 1) M7) (And.intro rfl (And.intro rfl (And.intro rfl True.intro)))
set_option maxRecDepth 100000 in
set_option maxHeartbeats 4000000 in
theorem X11_rest_ok (G : Gh) (M : Mem) : Mt G mi_X11_rest [.ref (G.2.2.2 (0))] M ((dO dIM) (X11_rest M)) := by
  refine Mt_of (lv := [some (.ref (G.2.2.2 (0)))]) (by decide) rfl (Nat.le_of_ble_eq_true rfl) rfl ?_
  refine r_le (lv' := [some (.ref (G.2.2.2 (0))), none, none]) (And.intro rfl True.intro) ?_
  unfold X11_rest
  refine r_aload_n dX11_rest_0 rfl ?_
  refine r_getf (v := .ref (G.2.2.2 (51))) dX11_rest_1 fX_0_6 kX11 (by decide) lkf_X11_62 rfl ?_
  refine c_V (inv_V (mi := mi_X11_rest) (b := 51) (rest := []) (X7_clear_ok G M) rfl (by decide) dX11_rest_4 lkm_X11_105 cal_X7_clear cX_51 rfl rfl (Nat.le_of_ble_eq_true rfl) rfl) (fun M1 => ?_)
  refine r_aload_n dX11_rest_7 rfl ?_
  refine r_getf (v := .ref (G.2.2.2 (41))) dX11_rest_8 fX_0_5 kX11 (by decide) lkf_X11_55 rfl ?_
  refine c_OIM rfl (inv_V (mi := mi_X11_rest) (b := 41) (rest := []) (X5_roundsToRest_ok G M1) rfl (by decide) dX11_rest_11 lkm_X11_232 cal_X5_roundsToRest cX_41 rfl rfl (Nat.le_of_ble_eq_true rfl) rfl) (fun v2 M3 => ?_)
  refine r_istore_n (lv' := [some (.ref (G.2.2.2 (0))), some (.int v2), none]) dX11_rest_14 (Nat.le_of_ble_eq_true rfl) rfl rfl ?_
  refine r_iload_n dX11_rest_15 rfl ?_
  refine r_iconst (x := (-1)) dX11_rest_16 rfl ?_
  refine r_icmp_ne (tgt := 22) dX11_rest_17 rfl (fun h4 => ?_) (fun h4 => ?_)
  · refine r_iconst (x := (-1)) dX11_rest_20 rfl ?_
    exact r_iret (ty := .int) dX11_rest_21 rfl rfl rfl
  refine r_iconst (x := 0) dX11_rest_22 rfl ?_
  refine r_istore_n (lv' := [some (.ref (G.2.2.2 (0))), some (.int v2), some (.int 0)]) dX11_rest_23 (Nat.le_of_ble_eq_true rfl) rfl rfl ?_
  refine r_jB1 (j := 56) (lvj := fun M8 => [none, some (.int v2), none]) (stj := fun M8 => []) (Mj := fun M8 => M8) (fun M8 => ?_) (fun hj56 => ?_)
  · refine r_iload_n dX11_rest_56 rfl ?_
    exact r_iret (ty := .int) dX11_rest_57 rfl rfl rfl
  exact r_lk (X11_rest_L1_ok G v2 rfl hj56 zFU 0 M3) (And.intro rfl (And.intro rfl (And.intro rfl True.intro)))

theorem dX9_become_0 : decode cX9_become 0 = .ok (.aload_n 1, 1) := by decide +kernel
theorem dX9_become_1 : decode cX9_become 1 = .ok (.getfield 11, 3) := by decide +kernel
theorem dX9_become_4 : decode cX9_become 4 = .ok (.aload_n 0, 1) := by decide +kernel
theorem dX9_become_5 : decode cX9_become 5 = .ok (.getfield 11, 3) := by decide +kernel
theorem dX9_become_8 : decode cX9_become 8 = .ok (.invokestatic 50, 3) := by decide +kernel
theorem dX9_become_11 : decode cX9_become 11 = .ok (.return_, 1) := by decide +kernel
abbrev mi_X9_become : MI := (zTX, RX9, yX9_become, cX9_become, 2, none, 9)
theorem cal_X9_become : zCalV mi_X9_become 1 := ⟨⟨zTB_i5 143 (by decide +kernel), zTB_i5 141 (by decide +kernel), zTB_i5 142 (by decide +kernel), zTB_i1 8 (by decide +kernel)⟩, ⟨by decide, by decide, by decide +kernel⟩, by decide⟩
noncomputable def X9_become (o0 : Nat) (o1 : Nat) (M : Mem) : Option (Mem) :=
  bo_ (X11_copyInts (o1 + 1) (o0 + 1) M) fun M1 =>
  some M1
set_option maxRecDepth 100000 in
set_option maxHeartbeats 4000000 in
theorem X9_become_ok_42_35 (G : Gh) (M : Mem) : Mt G mi_X9_become [.ref (G.2.2.2 (42)), .ref (G.2.2.2 (35))] M ((dO dV) (X9_become 42 35 M)) := by
  refine Mt_of (lv := [some (.ref (G.2.2.2 (42))), some (.ref (G.2.2.2 (35)))]) (by decide) rfl (Nat.le_of_ble_eq_true rfl) rfl ?_
  unfold X9_become
  refine r_aload_n dX9_become_0 rfl ?_
  refine r_getf (v := .ref (G.2.2.2 (35 + 1))) dX9_become_1 fX_35_1 kX9 (by decide) lkf_X9_11 rfl ?_
  refine r_aload_n dX9_become_4 rfl ?_
  refine r_getf (v := .ref (G.2.2.2 (42 + 1))) dX9_become_5 fX_42_1 kX9 (by decide) lkf_X9_11 rfl ?_
  refine c_OV rfl (inv_SN (mi := mi_X9_become) (rest := []) (X11_copyInts_ok G aX_36p aX_43p M) rfl (by decide) dX9_become_8 lkm_X9_50 cal_X11_copyInts rfl (Nat.le_of_ble_eq_true rfl) rfl) (fun M1 => ?_)
  exact r_vret dX9_become_11 rfl rfl

theorem dX5_cropLeftAlone_0 : decode cX5_cropLeftAlone 0 = .ok (.aload_n 0, 1) := by decide +kernel
theorem dX5_cropLeftAlone_1 : decode cX5_cropLeftAlone 1 = .ok (.getfield 40, 3) := by decide +kernel
theorem dX5_cropLeftAlone_4 : decode cX5_cropLeftAlone 4 = .ok (.aload_n 0, 1) := by decide +kernel
theorem dX5_cropLeftAlone_5 : decode cX5_cropLeftAlone 5 = .ok (.getfield 31, 3) := by decide +kernel
theorem dX5_cropLeftAlone_8 : decode cX5_cropLeftAlone 8 = .ok (.invokevirtual 124, 3) := by decide +kernel
theorem dX5_cropLeftAlone_11 : decode cX5_cropLeftAlone 11 = .ok (.iconst 0, 1) := by decide +kernel
theorem dX5_cropLeftAlone_12 : decode cX5_cropLeftAlone 12 = .ok (.istore_n 3, 1) := by decide +kernel
theorem dX5_cropLeftAlone_13 : decode cX5_cropLeftAlone 13 = .ok (.iload_n 3, 1) := by decide +kernel
theorem dX5_cropLeftAlone_14 : decode cX5_cropLeftAlone 14 = .ok (.iload_n 2, 1) := by decide +kernel
theorem dX5_cropLeftAlone_15 : decode cX5_cropLeftAlone 15 = .ok (.if_icmp .ge 17, 3) := by decide +kernel
theorem dX5_cropLeftAlone_18 : decode cX5_cropLeftAlone 18 = .ok (.aload_n 0, 1) := by decide +kernel
theorem dX5_cropLeftAlone_19 : decode cX5_cropLeftAlone 19 = .ok (.getfield 40, 3) := by decide +kernel
theorem dX5_cropLeftAlone_22 : decode cX5_cropLeftAlone 22 = .ok (.invokevirtual 128, 3) := by decide +kernel
theorem dX5_cropLeftAlone_25 : decode cX5_cropLeftAlone 25 = .ok (.pop, 1) := by decide +kernel
theorem dX5_cropLeftAlone_26 : decode cX5_cropLeftAlone 26 = .ok (.iinc 3 1, 3) := by decide +kernel
theorem dX5_cropLeftAlone_29 : decode cX5_cropLeftAlone 29 = .ok (.goto (-16), 3) := by decide +kernel
theorem dX5_cropLeftAlone_32 : decode cX5_cropLeftAlone 32 = .ok (.aload_n 0, 1) := by decide +kernel
theorem dX5_cropLeftAlone_33 : decode cX5_cropLeftAlone 33 = .ok (.getfield 40, 3) := by decide +kernel
theorem dX5_cropLeftAlone_36 : decode cX5_cropLeftAlone 36 = .ok (.iload_n 1, 1) := by decide +kernel
theorem dX5_cropLeftAlone_37 : decode cX5_cropLeftAlone 37 = .ok (.invokevirtual 132, 3) := by decide +kernel
theorem dX5_cropLeftAlone_40 : decode cX5_cropLeftAlone 40 = .ok (.ireturn, 1) := by decide +kernel
abbrev mi_X5_cropLeftAlone : MI := (zTX, RX5, yX5_cropLeftAlone, cX5_cropLeftAlone, 4, (some .int), 12)
theorem cal_X5_cropLeftAlone : zCalV mi_X5_cropLeftAlone 2 := ⟨⟨zTB_i5 139 (by decide +kernel), zTB_i5 137 (by decide +kernel), zTB_i5 138 (by decide +kernel), zTB_i1 10 (by decide +kernel)⟩, ⟨by decide, by decide, by decide +kernel⟩, by decide⟩
noncomputable def X5_cropLeftAlone_L1 (x2 : Int32) : Nat → Int32 → Mem → Option (Mem)
  | 0, _, _ => none
  | n + 1, c3, M =>
    if x2 ≤ c3 then
      some M
    else
    bp_ (X9_goWeek 42 M) fun v3 M4 =>
    X5_cropLeftAlone_L1 x2 n (c3 + 1) M4
noncomputable def X5_cropLeftAlone (x1 : Int32) (x2 : Int32) (M : Mem) : Option (Int32 × Mem) :=
  bo_ (X9_become 42 35 M) fun M1 =>
  b1_ (α := Mem) (X5_cropLeftAlone_L1 x2 zFU 0 M1) fun M5 =>
  some ((X9_cropOf 42 x1 M5), M5)
set_option maxRecDepth 100000 in
set_option maxHeartbeats 4000000 in
theorem X5_cropLeftAlone_L1_ok (G : Gh) (x1 : Int32) (x2 : Int32) {dn : Option (Mem) → Option (Option Value × Mem)} (hs : dn none = none) (hx : ∀ (M5 : Mem), Wr G mi_X5_cropLeftAlone dn 32 [some (.ref (G.2.2.2 (41))), some (.int x1), none, none] [] M5 (some M5)) : ∀ (n : Nat) (c3 : Int32) (M : Mem), Wr G mi_X5_cropLeftAlone dn 13 [some (.ref (G.2.2.2 (41))), some (.int x1), some (.int x2), some (.int c3)] [] M (X5_cropLeftAlone_L1 x2 n c3 M) := by
  intro n
  induction n with
  | zero => intro c3 M; exact r_none (by exact hs)
  | succ n ih =>
    intro c3 M
    rw [X5_cropLeftAlone_L1]
    refine r_iload_n dX5_cropLeftAlone_13 rfl ?_
    refine r_iload_n dX5_cropLeftAlone_14 rfl ?_
    refine r_icmp_ge (tgt := 32) dX5_cropLeftAlone_15 rfl (fun h2 => ?_) (fun h2 => ?_)
    · exact r_lk (hx M) (And.intro rfl (And.intro rfl True.intro))
    refine r_aload_n dX5_cropLeftAlone_18 rfl ?_
    refine r_getf (v := .ref (G.2.2.2 (42))) dX5_cropLeftAlone_19 fX_41_2 kX5 (by decide) lkf_X5_40 rfl ?_
    refine c_OIM (by exact hs) (inv_V (mi := mi_X5_cropLeftAlone) (b := 42) (rest := []) (X9_goWeek_ok_42 G M) rfl (by decide) dX5_cropLeftAlone_22 lkm_X5_128 cal_X9_goWeek cX_42 rfl rfl (Nat.le_of_ble_eq_true rfl) rfl) (fun v3 M4 => ?_)
    refine r_pop dX5_cropLeftAlone_25 rfl ?_
    refine r_iinc (y := c3 + 1) (lv' := [some (.ref (G.2.2.2 (41))), some (.int x1), some (.int x2), some (.int (c3 + 1))]) dX5_cropLeftAlone_26 rfl rfl (Nat.le_of_ble_eq_true rfl) rfl rfl ?_
    refine r_goto (tgt := 13) dX5_cropLeftAlone_29 rfl ?_
    exact r_lk (ih (c3 + 1) M4) (And.intro rfl (And.intro rfl (And.intro rfl (And.intro rfl True.intro))))
set_option maxRecDepth 100000 in
set_option maxHeartbeats 4000000 in
theorem X5_cropLeftAlone_ok (G : Gh) (x1 : Int32) (x2 : Int32) (M : Mem) : Mt G mi_X5_cropLeftAlone [.ref (G.2.2.2 (41)), .int x1, .int x2] M ((dO dIM) (X5_cropLeftAlone x1 x2 M)) := by
  refine Mt_of (lv := [some (.ref (G.2.2.2 (41))), some (.int x1), some (.int x2)]) (by decide) rfl (Nat.le_of_ble_eq_true rfl) rfl ?_
  refine r_le (lv' := [some (.ref (G.2.2.2 (41))), some (.int x1), some (.int x2), none]) (And.intro rfl (And.intro rfl (And.intro rfl True.intro))) ?_
  unfold X5_cropLeftAlone
  refine r_aload_n dX5_cropLeftAlone_0 rfl ?_
  refine r_getf (v := .ref (G.2.2.2 (42))) dX5_cropLeftAlone_1 fX_41_2 kX5 (by decide) lkf_X5_40 rfl ?_
  refine r_aload_n dX5_cropLeftAlone_4 rfl ?_
  refine r_getf (v := .ref (G.2.2.2 (35))) dX5_cropLeftAlone_5 fX_41_1 kX5 (by decide) lkf_X5_31 rfl ?_
  refine c_OV rfl (inv_V (mi := mi_X5_cropLeftAlone) (b := 42) (rest := []) (X9_become_ok_42_35 G M) rfl (by decide) dX5_cropLeftAlone_8 lkm_X5_124 cal_X9_become cX_42 rfl rfl (Nat.le_of_ble_eq_true rfl) rfl) (fun M1 => ?_)
  refine r_iconst (x := 0) dX5_cropLeftAlone_11 rfl ?_
  refine r_istore_n (lv' := [some (.ref (G.2.2.2 (41))), some (.int x1), some (.int x2), some (.int 0)]) dX5_cropLeftAlone_12 (Nat.le_of_ble_eq_true rfl) rfl rfl ?_
  refine r_jB1 (j := 32) (lvj := fun M5 => [some (.ref (G.2.2.2 (41))), some (.int x1), none, none]) (stj := fun M5 => []) (Mj := fun M5 => M5) (fun M5 => ?_) (fun hj32 => ?_)
  · refine r_aload_n dX5_cropLeftAlone_32 rfl ?_
    refine r_getf (v := .ref (G.2.2.2 (42))) dX5_cropLeftAlone_33 fX_41_2 kX5 (by decide) lkf_X5_40 rfl ?_
    refine r_iload_n dX5_cropLeftAlone_36 rfl ?_
    refine c_I (inv_V (mi := mi_X5_cropLeftAlone) (b := 42) (rest := []) (X9_cropOf_ok_42 G x1 M5) rfl (by decide) dX5_cropLeftAlone_37 lkm_X5_132 cal_X9_cropOf cX_42 rfl rfl (Nat.le_of_ble_eq_true rfl) rfl) ?_
    exact r_iret (ty := .int) dX5_cropLeftAlone_40 rfl rfl rfl
  exact r_lk (X5_cropLeftAlone_L1_ok G x1 x2 rfl hj32 zFU 0 M1) (And.intro rfl (And.intro rfl (And.intro rfl (And.intro rfl True.intro))))

theorem dX11_will_0 : decode cX11_will 0 = .ok (.aload_n 0, 1) := by decide +kernel
theorem dX11_will_1 : decode cX11_will 1 = .ok (.getfield 28, 3) := by decide +kernel
theorem dX11_will_4 : decode cX11_will 4 = .ok (.iload_n 1, 1) := by decide +kernel
theorem dX11_will_5 : decode cX11_will 5 = .ok (.invokevirtual 119, 3) := by decide +kernel
theorem dX11_will_8 : decode cX11_will 8 = .ok (.ifCond .eq 13, 3) := by decide +kernel
theorem dX11_will_11 : decode cX11_will 11 = .ok (.iload_n 2, 1) := by decide +kernel
theorem dX11_will_12 : decode cX11_will 12 = .ok (.ifCond .lt 9, 3) := by decide +kernel
theorem dX11_will_15 : decode cX11_will 15 = .ok (.iload_n 2, 1) := by decide +kernel
theorem dX11_will_16 : decode cX11_will 16 = .ok (.bipush 30, 2) := by decide +kernel
theorem dX11_will_18 : decode cX11_will 18 = .ok (.if_icmp .le 5, 3) := by decide +kernel
theorem dX11_will_21 : decode cX11_will 21 = .ok (.iconst (-1), 1) := by decide +kernel
theorem dX11_will_22 : decode cX11_will 22 = .ok (.ireturn, 1) := by decide +kernel
theorem dX11_will_23 : decode cX11_will 23 = .ok (.aload_n 0, 1) := by decide +kernel
theorem dX11_will_24 : decode cX11_will 24 = .ok (.getfield 55, 3) := by decide +kernel
theorem dX11_will_27 : decode cX11_will 27 = .ok (.iload_n 1, 1) := by decide +kernel
theorem dX11_will_28 : decode cX11_will 28 = .ok (.iload_n 2, 1) := by decide +kernel
theorem dX11_will_29 : decode cX11_will 29 = .ok (.invokevirtual 238, 3) := by decide +kernel
theorem dX11_will_32 : decode cX11_will 32 = .ok (.ireturn, 1) := by decide +kernel
abbrev mi_X11_will : MI := (zTX, RX11, yX11_will, cX11_will, 3, (some .int), 13)
theorem cal_X11_will : zCalV mi_X11_will 2 := ⟨⟨zTB_i5 135 (by decide +kernel), zTB_i5 133 (by decide +kernel), zTB_i5 134 (by decide +kernel), zTB_i1 1 (by decide +kernel)⟩, ⟨by decide, by decide, by decide +kernel⟩, by decide⟩
noncomputable def X11_will (x1 : Int32) (x2 : Int32) (M : Mem) : Option (Int32 × Mem) :=
  if (X3_hasMan 23 x1 M) = true then
    if x2 < 0 then
      some ((-1), M)
    else
    if x2 ≤ 30 then
      bp_ (X5_cropLeftAlone x1 x2 M) fun v4 M5 =>
      some (v4, M5)
    else
    some ((-1), M)
  else
  some ((-1), M)
set_option maxRecDepth 100000 in
set_option maxHeartbeats 4000000 in
theorem X11_will_ok (G : Gh) (x1 : Int32) (x2 : Int32) (M : Mem) : Mt G mi_X11_will [.ref (G.2.2.2 (0)), .int x1, .int x2] M ((dO dIM) (X11_will x1 x2 M)) := by
  refine Mt_of (lv := [some (.ref (G.2.2.2 (0))), some (.int x1), some (.int x2)]) (by decide) rfl (Nat.le_of_ble_eq_true rfl) rfl ?_
  unfold X11_will
  refine r_aload_n dX11_will_0 rfl ?_
  refine r_getf (v := .ref (G.2.2.2 (23))) dX11_will_1 fX_0_2 kX11 (by decide) lkf_X11_28 rfl ?_
  refine r_iload_n dX11_will_4 rfl ?_
  refine c_Z (inv_V (mi := mi_X11_will) (b := 23) (rest := []) (X3_hasMan_ok_23 G x1 M) rfl (by decide) dX11_will_5 lkm_X11_119 cal_X3_hasMan cX_23 rfl rfl (Nat.le_of_ble_eq_true rfl) rfl) ?_
  refine r_ifz_eq (tgt := 21) dX11_will_8 rfl (fun h1 => ?_) (fun h1 => ?_)
  · refine r_iload_n dX11_will_11 rfl ?_
    refine r_if_lt (tgt := 21) dX11_will_12 rfl (fun h2 => ?_) (fun h2 => ?_)
    · refine r_iconst (x := (-1)) dX11_will_21 rfl ?_
      exact r_iret (ty := .int) dX11_will_22 rfl rfl rfl
    refine r_iload_n dX11_will_15 rfl ?_
    refine r_bipush (x := 30) dX11_will_16 rfl ?_
    refine r_icmp_le (tgt := 23) dX11_will_18 rfl (fun h3 => ?_) (fun h3 => ?_)
    · refine r_aload_n dX11_will_23 rfl ?_
      refine r_getf (v := .ref (G.2.2.2 (41))) dX11_will_24 fX_0_5 kX11 (by decide) lkf_X11_55 rfl ?_
      refine r_iload_n dX11_will_27 rfl ?_
      refine r_iload_n dX11_will_28 rfl ?_
      refine c_OIM rfl (inv_V (mi := mi_X11_will) (b := 41) (rest := []) (X5_cropLeftAlone_ok G x1 x2 M) rfl (by decide) dX11_will_29 lkm_X11_238 cal_X5_cropLeftAlone cX_41 rfl rfl (Nat.le_of_ble_eq_true rfl) rfl) (fun v4 M5 => ?_)
      exact r_iret (ty := .int) dX11_will_32 rfl rfl rfl
    refine r_iconst (x := (-1)) dX11_will_21 rfl ?_
    exact r_iret (ty := .int) dX11_will_22 rfl rfl rfl
  refine r_iconst (x := (-1)) dX11_will_21 rfl ?_
  exact r_iret (ty := .int) dX11_will_22 rfl rfl rfl

theorem dX5_cropAtBest_0 : decode cX5_cropAtBest 0 = .ok (.aload_n 0, 1) := by decide +kernel
theorem dX5_cropAtBest_1 : decode cX5_cropAtBest 1 = .ok (.getfield 40, 3) := by decide +kernel
theorem dX5_cropAtBest_4 : decode cX5_cropAtBest 4 = .ok (.aload_n 0, 1) := by decide +kernel
theorem dX5_cropAtBest_5 : decode cX5_cropAtBest 5 = .ok (.getfield 31, 3) := by decide +kernel
theorem dX5_cropAtBest_8 : decode cX5_cropAtBest 8 = .ok (.invokevirtual 124, 3) := by decide +kernel
theorem dX5_cropAtBest_11 : decode cX5_cropAtBest 11 = .ok (.iconst 0, 1) := by decide +kernel
theorem dX5_cropAtBest_12 : decode cX5_cropAtBest 12 = .ok (.istore_n 3, 1) := by decide +kernel
theorem dX5_cropAtBest_13 : decode cX5_cropAtBest 13 = .ok (.iload_n 3, 1) := by decide +kernel
theorem dX5_cropAtBest_14 : decode cX5_cropAtBest 14 = .ok (.iload_n 2, 1) := by decide +kernel
theorem dX5_cropAtBest_15 : decode cX5_cropAtBest 15 = .ok (.if_icmp .ge 77, 3) := by decide +kernel
theorem dX5_cropAtBest_18 : decode cX5_cropAtBest 18 = .ok (.aload_n 0, 1) := by decide +kernel
theorem dX5_cropAtBest_19 : decode cX5_cropAtBest 19 = .ok (.invokevirtual 43, 3) := by decide +kernel
theorem dX5_cropAtBest_22 : decode cX5_cropAtBest 22 = .ok (.aload_n 0, 1) := by decide +kernel
theorem dX5_cropAtBest_23 : decode cX5_cropAtBest 23 = .ok (.aload_n 0, 1) := by decide +kernel
theorem dX5_cropAtBest_24 : decode cX5_cropAtBest 24 = .ok (.getfield 40, 3) := by decide +kernel
theorem dX5_cropAtBest_27 : decode cX5_cropAtBest 27 = .ok (.iload_n 1, 1) := by decide +kernel
theorem dX5_cropAtBest_28 : decode cX5_cropAtBest 28 = .ok (.iconst 0, 1) := by decide +kernel
theorem dX5_cropAtBest_29 : decode cX5_cropAtBest 29 = .ok (.iconst 0, 1) := by decide +kernel
theorem dX5_cropAtBest_30 : decode cX5_cropAtBest 30 = .ok (.invokevirtual 46, 3) := by decide +kernel
theorem dX5_cropAtBest_33 : decode cX5_cropAtBest 33 = .ok (.pop, 1) := by decide +kernel
theorem dX5_cropAtBest_34 : decode cX5_cropAtBest 34 = .ok (.iconst 0, 1) := by decide +kernel
theorem dX5_cropAtBest_35 : decode cX5_cropAtBest 35 = .ok (.istore 4, 2) := by decide +kernel
theorem dX5_cropAtBest_37 : decode cX5_cropAtBest 37 = .ok (.iload 4, 2) := by decide +kernel
theorem dX5_cropAtBest_39 : decode cX5_cropAtBest 39 = .ok (.aload_n 0, 1) := by decide +kernel
theorem dX5_cropAtBest_40 : decode cX5_cropAtBest 40 = .ok (.getfield 27, 3) := by decide +kernel
theorem dX5_cropAtBest_43 : decode cX5_cropAtBest 43 = .ok (.getfield 135, 3) := by decide +kernel
theorem dX5_cropAtBest_46 : decode cX5_cropAtBest 46 = .ok (.if_icmp .ge 32, 3) := by decide +kernel
theorem dX5_cropAtBest_49 : decode cX5_cropAtBest 49 = .ok (.aload_n 0, 1) := by decide +kernel
theorem dX5_cropAtBest_50 : decode cX5_cropAtBest 50 = .ok (.getfield 40, 3) := by decide +kernel
theorem dX5_cropAtBest_53 : decode cX5_cropAtBest 53 = .ok (.iload_n 1, 1) := by decide +kernel
theorem dX5_cropAtBest_54 : decode cX5_cropAtBest 54 = .ok (.iload 4, 2) := by decide +kernel
theorem dX5_cropAtBest_56 : decode cX5_cropAtBest 56 = .ok (.aload_n 0, 1) := by decide +kernel
theorem dX5_cropAtBest_57 : decode cX5_cropAtBest 57 = .ok (.getfield 9, 3) := by decide +kernel
theorem dX5_cropAtBest_60 : decode cX5_cropAtBest 60 = .ok (.iload_n 1, 1) := by decide +kernel
theorem dX5_cropAtBest_61 : decode cX5_cropAtBest 61 = .ok (.iconst 3, 1) := by decide +kernel
theorem dX5_cropAtBest_62 : decode cX5_cropAtBest 62 = .ok (.imul, 1) := by decide +kernel
theorem dX5_cropAtBest_63 : decode cX5_cropAtBest 63 = .ok (.iload 4, 2) := by decide +kernel
theorem dX5_cropAtBest_65 : decode cX5_cropAtBest 65 = .ok (.iadd, 1) := by decide +kernel
theorem dX5_cropAtBest_66 : decode cX5_cropAtBest 66 = .ok (.invokestatic 107, 3) := by decide +kernel
theorem dX5_cropAtBest_69 : decode cX5_cropAtBest 69 = .ok (.invokevirtual 138, 3) := by decide +kernel
theorem dX5_cropAtBest_72 : decode cX5_cropAtBest 72 = .ok (.iinc 4 1, 3) := by decide +kernel
theorem dX5_cropAtBest_75 : decode cX5_cropAtBest 75 = .ok (.goto (-38), 3) := by decide +kernel
theorem dX5_cropAtBest_78 : decode cX5_cropAtBest 78 = .ok (.aload_n 0, 1) := by decide +kernel
theorem dX5_cropAtBest_79 : decode cX5_cropAtBest 79 = .ok (.getfield 40, 3) := by decide +kernel
theorem dX5_cropAtBest_82 : decode cX5_cropAtBest 82 = .ok (.invokevirtual 128, 3) := by decide +kernel
theorem dX5_cropAtBest_85 : decode cX5_cropAtBest 85 = .ok (.pop, 1) := by decide +kernel
theorem dX5_cropAtBest_86 : decode cX5_cropAtBest 86 = .ok (.iinc 3 1, 3) := by decide +kernel
theorem dX5_cropAtBest_89 : decode cX5_cropAtBest 89 = .ok (.goto (-76), 3) := by decide +kernel
theorem dX5_cropAtBest_92 : decode cX5_cropAtBest 92 = .ok (.aload_n 0, 1) := by decide +kernel
theorem dX5_cropAtBest_93 : decode cX5_cropAtBest 93 = .ok (.getfield 40, 3) := by decide +kernel
theorem dX5_cropAtBest_96 : decode cX5_cropAtBest 96 = .ok (.iload_n 1, 1) := by decide +kernel
theorem dX5_cropAtBest_97 : decode cX5_cropAtBest 97 = .ok (.invokevirtual 132, 3) := by decide +kernel
theorem dX5_cropAtBest_100 : decode cX5_cropAtBest 100 = .ok (.ireturn, 1) := by decide +kernel
abbrev mi_X5_cropAtBest : MI := (zTX, RX5, yX5_cropAtBest, cX5_cropAtBest, 5, (some .int), 13)
theorem cal_X5_cropAtBest : zCalV mi_X5_cropAtBest 2 := ⟨⟨zTB_i5 154 (by decide +kernel), zTB_i5 152 (by decide +kernel), zTB_i5 153 (by decide +kernel), zTB_i1 10 (by decide +kernel)⟩, ⟨by decide, by decide, by decide +kernel⟩, by decide⟩
noncomputable def X5_cropAtBest_L2 (x1 : Int32) : Nat → Int32 → Mem → Option (Mem)
  | 0, _, _ => none
  | n + 1, c4, M =>
    if (M.1 23 1) ≤ c4 then
      some M
    else
    bo_ (X9_spendHours 42 x1 c4 (X11_cell 46 ((x1 * 3) + c4) M) M) fun M7 =>
    X5_cropAtBest_L2 x1 n (c4 + 1) M7
noncomputable def X5_cropAtBest_L1 (x1 : Int32) (x2 : Int32) : Nat → Int32 → Mem → Option (Mem)
  | 0, _, _ => none
  | n + 1, c3, M =>
    if x2 ≤ c3 then
      some M
    else
    bo_ (X5_clearRows M) fun M3 =>
    bp_ (X5_seek 42 x1 0 0 M3) fun v4 M5 =>
    b1_ (α := Mem) (X5_cropAtBest_L2 x1 zFU 0 M5) fun M8 =>
    bp_ (X9_goWeek 42 M8) fun v9 M10 =>
    X5_cropAtBest_L1 x1 x2 n (c3 + 1) M10
noncomputable def X5_cropAtBest (x1 : Int32) (x2 : Int32) (M : Mem) : Option (Int32 × Mem) :=
  bo_ (X9_become 42 35 M) fun M1 =>
  b1_ (α := Mem) (X5_cropAtBest_L1 x1 x2 zFU 0 M1) fun M11 =>
  some ((X9_cropOf 42 x1 M11), M11)
set_option maxRecDepth 100000 in
set_option maxHeartbeats 4000000 in
theorem X5_cropAtBest_L2_ok (G : Gh) (x1 : Int32) (x2 : Int32) (c3 : Int32) {dn : Option (Mem) → Option (Option Value × Mem)} (hs : dn none = none) (hx : ∀ (M8 : Mem), Wr G mi_X5_cropAtBest dn 78 [some (.ref (G.2.2.2 (41))), some (.int x1), some (.int x2), some (.int c3), none] [] M8 (some M8)) : ∀ (n : Nat) (c4 : Int32) (M : Mem), Wr G mi_X5_cropAtBest dn 37 [some (.ref (G.2.2.2 (41))), some (.int x1), some (.int x2), some (.int c3), some (.int c4)] [] M (X5_cropAtBest_L2 x1 n c4 M) := by
  intro n
  induction n with
  | zero => intro c4 M; exact r_none (by exact hs)
  | succ n ih =>
    intro c4 M
    rw [X5_cropAtBest_L2]
    refine r_iload dX5_cropAtBest_37 rfl ?_
    refine r_aload_n dX5_cropAtBest_39 rfl ?_
    refine r_getf (v := .ref (G.2.2.2 (23))) dX5_cropAtBest_40 fX_41_0 kX5 (by decide) lkf_X5_27 rfl ?_
    refine r_getf (v := .int (M.1 23 1)) dX5_cropAtBest_43 fX_23_1 kX3 (by decide) lkf_X5_135 rfl ?_
    refine r_icmp_ge (tgt := 78) dX5_cropAtBest_46 rfl (fun h6 => ?_) (fun h6 => ?_)
    · exact r_lk (hx M) (And.intro rfl (And.intro rfl (And.intro rfl (And.intro rfl True.intro))))
    refine r_aload_n dX5_cropAtBest_49 rfl ?_
    refine r_getf (v := .ref (G.2.2.2 (42))) dX5_cropAtBest_50 fX_41_2 kX5 (by decide) lkf_X5_40 rfl ?_
    refine r_iload_n dX5_cropAtBest_53 rfl ?_
    refine r_iload dX5_cropAtBest_54 rfl ?_
    refine r_aload_n dX5_cropAtBest_56 rfl ?_
    refine r_getf (v := .ref (G.2.2.2 (46))) dX5_cropAtBest_57 fX_41_3 kX5 (by decide) lkf_X5_9 rfl ?_
    refine r_iload_n dX5_cropAtBest_60 rfl ?_
    refine r_iconst (x := 3) dX5_cropAtBest_61 rfl ?_
    refine r_imul dX5_cropAtBest_62 ?_
    refine r_iload dX5_cropAtBest_63 rfl ?_
    refine r_iadd dX5_cropAtBest_65 ?_
    refine c_I (inv_SN (mi := mi_X5_cropAtBest) (rest := [.int c4, .int x1, .ref (G.2.2.2 (42))]) (X11_cell_ok G aX_46p ((x1 * 3) + c4) M) rfl (by decide) dX5_cropAtBest_66 lkm_X5_107 cal_X11_cell rfl (Nat.le_of_ble_eq_true rfl) rfl) ?_
    refine c_OV (by exact hs) (inv_V (mi := mi_X5_cropAtBest) (b := 42) (rest := []) (X9_spendHours_ok_42 G x1 c4 (X11_cell 46 ((x1 * 3) + c4) M) M) rfl (by decide) dX5_cropAtBest_69 lkm_X5_138 cal_X9_spendHours cX_42 rfl rfl (Nat.le_of_ble_eq_true rfl) rfl) (fun M7 => ?_)
    refine r_iinc (y := c4 + 1) (lv' := [some (.ref (G.2.2.2 (41))), some (.int x1), some (.int x2), some (.int c3), some (.int (c4 + 1))]) dX5_cropAtBest_72 rfl rfl (Nat.le_of_ble_eq_true rfl) rfl rfl ?_
    refine r_goto (tgt := 37) dX5_cropAtBest_75 rfl ?_
    exact r_lk (ih (c4 + 1) M7) (And.intro rfl (And.intro rfl (And.intro rfl (And.intro rfl (And.intro rfl True.intro)))))
set_option maxRecDepth 100000 in
set_option maxHeartbeats 4000000 in
theorem X5_cropAtBest_L1_ok (G : Gh) (x1 : Int32) (x2 : Int32) {dn : Option (Mem) → Option (Option Value × Mem)} (hs : dn none = none) (hx : ∀ (M11 : Mem), Wr G mi_X5_cropAtBest dn 92 [some (.ref (G.2.2.2 (41))), some (.int x1), none, none, none] [] M11 (some M11)) : ∀ (n : Nat) (c3 : Int32) (M : Mem), Wr G mi_X5_cropAtBest dn 13 [some (.ref (G.2.2.2 (41))), some (.int x1), some (.int x2), some (.int c3), none] [] M (X5_cropAtBest_L1 x1 x2 n c3 M) := by
  intro n
  induction n with
  | zero => intro c3 M; exact r_none (by exact hs)
  | succ n ih =>
    intro c3 M
    rw [X5_cropAtBest_L1]
    refine r_iload_n dX5_cropAtBest_13 rfl ?_
    refine r_iload_n dX5_cropAtBest_14 rfl ?_
    refine r_icmp_ge (tgt := 92) dX5_cropAtBest_15 rfl (fun h2 => ?_) (fun h2 => ?_)
    · exact r_lk (hx M) (And.intro rfl (And.intro rfl True.intro))
    refine r_aload_n dX5_cropAtBest_18 rfl ?_
    refine c_OV (by exact hs) (inv_V (mi := mi_X5_cropAtBest) (b := 41) (rest := []) (X5_clearRows_ok G M) rfl (by decide) dX5_cropAtBest_19 lkm_X5_43 cal_X5_clearRows cX_41 rfl rfl (Nat.le_of_ble_eq_true rfl) rfl) (fun M3 => ?_)
    refine r_aload_n dX5_cropAtBest_22 rfl ?_
    refine r_aload_n dX5_cropAtBest_23 rfl ?_
    refine r_getf (v := .ref (G.2.2.2 (42))) dX5_cropAtBest_24 fX_41_2 kX5 (by decide) lkf_X5_40 rfl ?_
    refine r_iload_n dX5_cropAtBest_27 rfl ?_
    refine r_iconst (x := 0) dX5_cropAtBest_28 rfl ?_
    refine r_iconst (x := 0) dX5_cropAtBest_29 rfl ?_
    refine c_OIM (by exact hs) (inv_V (mi := mi_X5_cropAtBest) (b := 41) (rest := []) (X5_seek_ok_42 G x1 0 0 M3) rfl (by decide) dX5_cropAtBest_30 lkm_X5_46 cal_X5_seek cX_41 rfl rfl (Nat.le_of_ble_eq_true rfl) rfl) (fun v4 M5 => ?_)
    refine r_pop dX5_cropAtBest_33 rfl ?_
    refine r_iconst (x := 0) dX5_cropAtBest_34 rfl ?_
    refine r_istore (lv' := [some (.ref (G.2.2.2 (41))), some (.int x1), some (.int x2), some (.int c3), some (.int 0)]) dX5_cropAtBest_35 (Nat.le_of_ble_eq_true rfl) rfl rfl ?_
    refine r_jB1 (j := 78) (lvj := fun M8 => [some (.ref (G.2.2.2 (41))), some (.int x1), some (.int x2), some (.int c3), none]) (stj := fun M8 => []) (Mj := fun M8 => M8) (fun M8 => ?_) (fun hj78 => ?_)
    · refine r_aload_n dX5_cropAtBest_78 rfl ?_
      refine r_getf (v := .ref (G.2.2.2 (42))) dX5_cropAtBest_79 fX_41_2 kX5 (by decide) lkf_X5_40 rfl ?_
      refine c_OIM (by exact hs) (inv_V (mi := mi_X5_cropAtBest) (b := 42) (rest := []) (X9_goWeek_ok_42 G M8) rfl (by decide) dX5_cropAtBest_82 lkm_X5_128 cal_X9_goWeek cX_42 rfl rfl (Nat.le_of_ble_eq_true rfl) rfl) (fun v9 M10 => ?_)
      refine r_pop dX5_cropAtBest_85 rfl ?_
      refine r_iinc (y := c3 + 1) (lv' := [some (.ref (G.2.2.2 (41))), some (.int x1), some (.int x2), some (.int (c3 + 1)), none]) dX5_cropAtBest_86 rfl rfl (Nat.le_of_ble_eq_true rfl) rfl rfl ?_
      refine r_goto (tgt := 13) dX5_cropAtBest_89 rfl ?_
      exact r_lk (ih (c3 + 1) M10) (And.intro rfl (And.intro rfl (And.intro rfl (And.intro rfl True.intro))))
    exact r_lk (X5_cropAtBest_L2_ok G x1 x2 c3 (by exact hs) hj78 zFU 0 M5) (And.intro rfl (And.intro rfl (And.intro rfl (And.intro rfl (And.intro rfl True.intro)))))
set_option maxRecDepth 100000 in
set_option maxHeartbeats 4000000 in
theorem X5_cropAtBest_ok (G : Gh) (x1 : Int32) (x2 : Int32) (M : Mem) : Mt G mi_X5_cropAtBest [.ref (G.2.2.2 (41)), .int x1, .int x2] M ((dO dIM) (X5_cropAtBest x1 x2 M)) := by
  refine Mt_of (lv := [some (.ref (G.2.2.2 (41))), some (.int x1), some (.int x2)]) (by decide) rfl (Nat.le_of_ble_eq_true rfl) rfl ?_
  refine r_le (lv' := [some (.ref (G.2.2.2 (41))), some (.int x1), some (.int x2), none, none]) (And.intro rfl (And.intro rfl (And.intro rfl True.intro))) ?_
  unfold X5_cropAtBest
  refine r_aload_n dX5_cropAtBest_0 rfl ?_
  refine r_getf (v := .ref (G.2.2.2 (42))) dX5_cropAtBest_1 fX_41_2 kX5 (by decide) lkf_X5_40 rfl ?_
  refine r_aload_n dX5_cropAtBest_4 rfl ?_
  refine r_getf (v := .ref (G.2.2.2 (35))) dX5_cropAtBest_5 fX_41_1 kX5 (by decide) lkf_X5_31 rfl ?_
  refine c_OV rfl (inv_V (mi := mi_X5_cropAtBest) (b := 42) (rest := []) (X9_become_ok_42_35 G M) rfl (by decide) dX5_cropAtBest_8 lkm_X5_124 cal_X9_become cX_42 rfl rfl (Nat.le_of_ble_eq_true rfl) rfl) (fun M1 => ?_)
  refine r_iconst (x := 0) dX5_cropAtBest_11 rfl ?_
  refine r_istore_n (lv' := [some (.ref (G.2.2.2 (41))), some (.int x1), some (.int x2), some (.int 0), none]) dX5_cropAtBest_12 (Nat.le_of_ble_eq_true rfl) rfl rfl ?_
  refine r_jB1 (j := 92) (lvj := fun M11 => [some (.ref (G.2.2.2 (41))), some (.int x1), none, none, none]) (stj := fun M11 => []) (Mj := fun M11 => M11) (fun M11 => ?_) (fun hj92 => ?_)
  · refine r_aload_n dX5_cropAtBest_92 rfl ?_
    refine r_getf (v := .ref (G.2.2.2 (42))) dX5_cropAtBest_93 fX_41_2 kX5 (by decide) lkf_X5_40 rfl ?_
    refine r_iload_n dX5_cropAtBest_96 rfl ?_
    refine c_I (inv_V (mi := mi_X5_cropAtBest) (b := 42) (rest := []) (X9_cropOf_ok_42 G x1 M11) rfl (by decide) dX5_cropAtBest_97 lkm_X5_132 cal_X9_cropOf cX_42 rfl rfl (Nat.le_of_ble_eq_true rfl) rfl) ?_
    exact r_iret (ty := .int) dX5_cropAtBest_100 rfl rfl rfl
  exact r_lk (X5_cropAtBest_L1_ok G x1 x2 rfl hj92 zFU 0 M1) (And.intro rfl (And.intro rfl (And.intro rfl (And.intro rfl True.intro))))

theorem dX11_thrive_0 : decode cX11_thrive 0 = .ok (.aload_n 0, 1) := by decide +kernel
theorem dX11_thrive_1 : decode cX11_thrive 1 = .ok (.getfield 28, 3) := by decide +kernel
theorem dX11_thrive_4 : decode cX11_thrive 4 = .ok (.iload_n 1, 1) := by decide +kernel
theorem dX11_thrive_5 : decode cX11_thrive 5 = .ok (.invokevirtual 119, 3) := by decide +kernel
theorem dX11_thrive_8 : decode cX11_thrive 8 = .ok (.ifCond .eq 13, 3) := by decide +kernel
theorem dX11_thrive_11 : decode cX11_thrive 11 = .ok (.iload_n 2, 1) := by decide +kernel
theorem dX11_thrive_12 : decode cX11_thrive 12 = .ok (.ifCond .lt 9, 3) := by decide +kernel
theorem dX11_thrive_15 : decode cX11_thrive 15 = .ok (.iload_n 2, 1) := by decide +kernel
theorem dX11_thrive_16 : decode cX11_thrive 16 = .ok (.bipush 12, 2) := by decide +kernel
theorem dX11_thrive_18 : decode cX11_thrive 18 = .ok (.if_icmp .le 5, 3) := by decide +kernel
theorem dX11_thrive_21 : decode cX11_thrive 21 = .ok (.iconst (-1), 1) := by decide +kernel
theorem dX11_thrive_22 : decode cX11_thrive 22 = .ok (.ireturn, 1) := by decide +kernel
theorem dX11_thrive_23 : decode cX11_thrive 23 = .ok (.aload_n 0, 1) := by decide +kernel
theorem dX11_thrive_24 : decode cX11_thrive 24 = .ok (.getfield 55, 3) := by decide +kernel
theorem dX11_thrive_27 : decode cX11_thrive 27 = .ok (.iload_n 1, 1) := by decide +kernel
theorem dX11_thrive_28 : decode cX11_thrive 28 = .ok (.iload_n 2, 1) := by decide +kernel
theorem dX11_thrive_29 : decode cX11_thrive 29 = .ok (.invokevirtual 241, 3) := by decide +kernel
theorem dX11_thrive_32 : decode cX11_thrive 32 = .ok (.ireturn, 1) := by decide +kernel
abbrev mi_X11_thrive : MI := (zTX, RX11, yX11_thrive, cX11_thrive, 3, (some .int), 14)
theorem cal_X11_thrive : zCalV mi_X11_thrive 2 := ⟨⟨zTB_i5 150 (by decide +kernel), zTB_i5 148 (by decide +kernel), zTB_i5 149 (by decide +kernel), zTB_i1 1 (by decide +kernel)⟩, ⟨by decide, by decide, by decide +kernel⟩, by decide⟩
noncomputable def X11_thrive (x1 : Int32) (x2 : Int32) (M : Mem) : Option (Int32 × Mem) :=
  if (X3_hasMan 23 x1 M) = true then
    if x2 < 0 then
      some ((-1), M)
    else
    if x2 ≤ 12 then
      bp_ (X5_cropAtBest x1 x2 M) fun v4 M5 =>
      some (v4, M5)
    else
    some ((-1), M)
  else
  some ((-1), M)
set_option maxRecDepth 100000 in
set_option maxHeartbeats 4000000 in
theorem X11_thrive_ok (G : Gh) (x1 : Int32) (x2 : Int32) (M : Mem) : Mt G mi_X11_thrive [.ref (G.2.2.2 (0)), .int x1, .int x2] M ((dO dIM) (X11_thrive x1 x2 M)) := by
  refine Mt_of (lv := [some (.ref (G.2.2.2 (0))), some (.int x1), some (.int x2)]) (by decide) rfl (Nat.le_of_ble_eq_true rfl) rfl ?_
  unfold X11_thrive
  refine r_aload_n dX11_thrive_0 rfl ?_
  refine r_getf (v := .ref (G.2.2.2 (23))) dX11_thrive_1 fX_0_2 kX11 (by decide) lkf_X11_28 rfl ?_
  refine r_iload_n dX11_thrive_4 rfl ?_
  refine c_Z (inv_V (mi := mi_X11_thrive) (b := 23) (rest := []) (X3_hasMan_ok_23 G x1 M) rfl (by decide) dX11_thrive_5 lkm_X11_119 cal_X3_hasMan cX_23 rfl rfl (Nat.le_of_ble_eq_true rfl) rfl) ?_
  refine r_ifz_eq (tgt := 21) dX11_thrive_8 rfl (fun h1 => ?_) (fun h1 => ?_)
  · refine r_iload_n dX11_thrive_11 rfl ?_
    refine r_if_lt (tgt := 21) dX11_thrive_12 rfl (fun h2 => ?_) (fun h2 => ?_)
    · refine r_iconst (x := (-1)) dX11_thrive_21 rfl ?_
      exact r_iret (ty := .int) dX11_thrive_22 rfl rfl rfl
    refine r_iload_n dX11_thrive_15 rfl ?_
    refine r_bipush (x := 12) dX11_thrive_16 rfl ?_
    refine r_icmp_le (tgt := 23) dX11_thrive_18 rfl (fun h3 => ?_) (fun h3 => ?_)
    · refine r_aload_n dX11_thrive_23 rfl ?_
      refine r_getf (v := .ref (G.2.2.2 (41))) dX11_thrive_24 fX_0_5 kX11 (by decide) lkf_X11_55 rfl ?_
      refine r_iload_n dX11_thrive_27 rfl ?_
      refine r_iload_n dX11_thrive_28 rfl ?_
      refine c_OIM rfl (inv_V (mi := mi_X11_thrive) (b := 41) (rest := []) (X5_cropAtBest_ok G x1 x2 M) rfl (by decide) dX11_thrive_29 lkm_X11_241 cal_X5_cropAtBest cX_41 rfl rfl (Nat.le_of_ble_eq_true rfl) rfl) (fun v4 M5 => ?_)
      exact r_iret (ty := .int) dX11_thrive_32 rfl rfl rfl
    refine r_iconst (x := (-1)) dX11_thrive_21 rfl ?_
    exact r_iret (ty := .int) dX11_thrive_22 rfl rfl rfl
  refine r_iconst (x := (-1)) dX11_thrive_21 rfl ?_
  exact r_iret (ty := .int) dX11_thrive_22 rfl rfl rfl

theorem dX11_saves_0 : decode cX11_saves 0 = .ok (.aload_n 0, 1) := by decide +kernel
theorem dX11_saves_1 : decode cX11_saves 1 = .ok (.getfield 28, 3) := by decide +kernel
theorem dX11_saves_4 : decode cX11_saves 4 = .ok (.iload_n 1, 1) := by decide +kernel
theorem dX11_saves_5 : decode cX11_saves 5 = .ok (.iload_n 2, 1) := by decide +kernel
theorem dX11_saves_6 : decode cX11_saves 6 = .ok (.invokevirtual 150, 3) := by decide +kernel
theorem dX11_saves_9 : decode cX11_saves 9 = .ok (.ifCond .eq 13, 3) := by decide +kernel
theorem dX11_saves_12 : decode cX11_saves 12 = .ok (.iload_n 3, 1) := by decide +kernel
theorem dX11_saves_13 : decode cX11_saves 13 = .ok (.ifCond .lt 9, 3) := by decide +kernel
theorem dX11_saves_16 : decode cX11_saves 16 = .ok (.iload_n 3, 1) := by decide +kernel
theorem dX11_saves_17 : decode cX11_saves 17 = .ok (.bipush 99, 2) := by decide +kernel
theorem dX11_saves_19 : decode cX11_saves 19 = .ok (.if_icmp .le 5, 3) := by decide +kernel
theorem dX11_saves_22 : decode cX11_saves 22 = .ok (.iconst (-1), 1) := by decide +kernel
theorem dX11_saves_23 : decode cX11_saves 23 = .ok (.ireturn, 1) := by decide +kernel
theorem dX11_saves_24 : decode cX11_saves 24 = .ok (.iconst 0, 1) := by decide +kernel
theorem dX11_saves_25 : decode cX11_saves 25 = .ok (.istore 4, 2) := by decide +kernel
theorem dX11_saves_27 : decode cX11_saves 27 = .ok (.iload 4, 2) := by decide +kernel
theorem dX11_saves_29 : decode cX11_saves 29 = .ok (.bipush 60, 2) := by decide +kernel
theorem dX11_saves_31 : decode cX11_saves 31 = .ok (.if_icmp .gt 38, 3) := by decide +kernel
theorem dX11_saves_34 : decode cX11_saves 34 = .ok (.aload_n 0, 1) := by decide +kernel
theorem dX11_saves_35 : decode cX11_saves 35 = .ok (.getfield 37, 3) := by decide +kernel
theorem dX11_saves_38 : decode cX11_saves 38 = .ok (.iload_n 1, 1) := by decide +kernel
theorem dX11_saves_39 : decode cX11_saves 39 = .ok (.iload_n 2, 1) := by decide +kernel
theorem dX11_saves_40 : decode cX11_saves 40 = .ok (.invokevirtual 154, 3) := by decide +kernel
theorem dX11_saves_43 : decode cX11_saves 43 = .ok (.iload 4, 2) := by decide +kernel
theorem dX11_saves_45 : decode cX11_saves 45 = .ok (.aload_n 0, 1) := by decide +kernel
theorem dX11_saves_46 : decode cX11_saves 46 = .ok (.getfield 28, 3) := by decide +kernel
theorem dX11_saves_49 : decode cX11_saves 49 = .ok (.iload_n 1, 1) := by decide +kernel
theorem dX11_saves_50 : decode cX11_saves 50 = .ok (.iload_n 2, 1) := by decide +kernel
theorem dX11_saves_51 : decode cX11_saves 51 = .ok (.invokevirtual 161, 3) := by decide +kernel
theorem dX11_saves_54 : decode cX11_saves 54 = .ok (.imul, 1) := by decide +kernel
theorem dX11_saves_55 : decode cX11_saves 55 = .ok (.iadd, 1) := by decide +kernel
theorem dX11_saves_56 : decode cX11_saves 56 = .ok (.iload_n 3, 1) := by decide +kernel
theorem dX11_saves_57 : decode cX11_saves 57 = .ok (.if_icmp .lt 6, 3) := by decide +kernel
theorem dX11_saves_60 : decode cX11_saves 60 = .ok (.iload 4, 2) := by decide +kernel
theorem dX11_saves_62 : decode cX11_saves 62 = .ok (.ireturn, 1) := by decide +kernel
theorem dX11_saves_63 : decode cX11_saves 63 = .ok (.iinc 4 1, 3) := by decide +kernel
theorem dX11_saves_66 : decode cX11_saves 66 = .ok (.goto (-39), 3) := by decide +kernel
theorem dX11_saves_69 : decode cX11_saves 69 = .ok (.iconst (-1), 1) := by decide +kernel
theorem dX11_saves_70 : decode cX11_saves 70 = .ok (.ireturn, 1) := by decide +kernel
abbrev mi_X11_saves : MI := (zTX, RX11, yX11_saves, cX11_saves, 5, (some .int), 4)
theorem cal_X11_saves : zCalV mi_X11_saves 3 := ⟨⟨zTB_i5 159 (by decide +kernel), zTB_i5 157 (by decide +kernel), zTB_i5 158 (by decide +kernel), zTB_i1 1 (by decide +kernel)⟩, ⟨by decide, by decide, by decide +kernel⟩, by decide⟩
noncomputable def X11_saves_L1 (x1 : Int32) (x2 : Int32) (x3 : Int32) (M : Mem) : Nat → Int32 → Option (Int32)
  | 0, _ => none
  | n + 1, c4 =>
    if 60 < c4 then
      some (-1)
    else
    if ((X9_purseOf 35 x1 x2 M) + (c4 * (X3_wageOf 23 x1 x2 M))) < x3 then
      X11_saves_L1 x1 x2 x3 M n (c4 + 1)
    else
    some c4
noncomputable def X11_saves (x1 : Int32) (x2 : Int32) (x3 : Int32) (M : Mem) : Option (Int32) :=
  if (X3_hasPair 23 x1 x2 M) = true then
    if x3 < 0 then
      some (-1)
    else
    if x3 ≤ 99 then
      X11_saves_L1 x1 x2 x3 M zFU 0
    else
    some (-1)
  else
  some (-1)
set_option maxRecDepth 100000 in
set_option maxHeartbeats 4000000 in
theorem X11_saves_L1_ok (G : Gh) (x1 : Int32) (x2 : Int32) (x3 : Int32) (M : Mem) : ∀ (n : Nat) (c4 : Int32), Wr G mi_X11_saves (dO (dI M)) 27 [some (.ref (G.2.2.2 (0))), some (.int x1), some (.int x2), some (.int x3), some (.int c4)] [] M (X11_saves_L1 x1 x2 x3 M n c4) := by
  intro n
  induction n with
  | zero => intro c4; exact r_none rfl
  | succ n ih =>
    intro c4
    rw [X11_saves_L1]
    refine r_iload dX11_saves_27 rfl ?_
    refine r_bipush (x := 60) dX11_saves_29 rfl ?_
    refine r_icmp_gt (tgt := 69) dX11_saves_31 rfl (fun h4 => ?_) (fun h4 => ?_)
    · refine r_iconst (x := (-1)) dX11_saves_69 rfl ?_
      exact r_iret (ty := .int) dX11_saves_70 rfl rfl rfl
    refine r_aload_n dX11_saves_34 rfl ?_
    refine r_getf (v := .ref (G.2.2.2 (35))) dX11_saves_35 fX_0_3 kX11 (by decide) lkf_X11_37 rfl ?_
    refine r_iload_n dX11_saves_38 rfl ?_
    refine r_iload_n dX11_saves_39 rfl ?_
    refine c_I (inv_V (mi := mi_X11_saves) (b := 35) (rest := []) (X9_purseOf_ok_35 G x1 x2 M) rfl (by decide) dX11_saves_40 lkm_X11_154 cal_X9_purseOf cX_35 rfl rfl (Nat.le_of_ble_eq_true rfl) rfl) ?_
    refine r_iload dX11_saves_43 rfl ?_
    refine r_aload_n dX11_saves_45 rfl ?_
    refine r_getf (v := .ref (G.2.2.2 (23))) dX11_saves_46 fX_0_2 kX11 (by decide) lkf_X11_28 rfl ?_
    refine r_iload_n dX11_saves_49 rfl ?_
    refine r_iload_n dX11_saves_50 rfl ?_
    refine c_I (inv_V (mi := mi_X11_saves) (b := 23) (rest := [.int c4, .int ((X9_purseOf 35 x1 x2 M))]) (X3_wageOf_ok_23 G x1 x2 M) rfl (by decide) dX11_saves_51 lkm_X11_161 cal_X3_wageOf cX_23 rfl rfl (Nat.le_of_ble_eq_true rfl) rfl) ?_
    refine r_imul dX11_saves_54 ?_
    refine r_iadd dX11_saves_55 ?_
    refine r_iload_n dX11_saves_56 rfl ?_
    refine r_icmp_lt (tgt := 63) dX11_saves_57 rfl (fun h5 => ?_) (fun h5 => ?_)
    · refine r_iinc (y := c4 + 1) (lv' := [some (.ref (G.2.2.2 (0))), some (.int x1), some (.int x2), some (.int x3), some (.int (c4 + 1))]) dX11_saves_63 rfl rfl (Nat.le_of_ble_eq_true rfl) rfl rfl ?_
      refine r_goto (tgt := 27) dX11_saves_66 rfl ?_
      exact r_lk (ih (c4 + 1)) (And.intro rfl (And.intro rfl (And.intro rfl (And.intro rfl (And.intro rfl True.intro)))))
    refine r_iload dX11_saves_60 rfl ?_
    exact r_iret (ty := .int) dX11_saves_62 rfl rfl rfl
set_option maxRecDepth 100000 in
set_option maxHeartbeats 4000000 in
theorem X11_saves_ok (G : Gh) (x1 : Int32) (x2 : Int32) (x3 : Int32) (M : Mem) : Mt G mi_X11_saves [.ref (G.2.2.2 (0)), .int x1, .int x2, .int x3] M ((dO (dI M)) (X11_saves x1 x2 x3 M)) := by
  refine Mt_of (lv := [some (.ref (G.2.2.2 (0))), some (.int x1), some (.int x2), some (.int x3)]) (by decide) rfl (Nat.le_of_ble_eq_true rfl) rfl ?_
  refine r_le (lv' := [some (.ref (G.2.2.2 (0))), some (.int x1), some (.int x2), some (.int x3), none]) (And.intro rfl (And.intro rfl (And.intro rfl (And.intro rfl True.intro)))) ?_
  unfold X11_saves
  refine r_aload_n dX11_saves_0 rfl ?_
  refine r_getf (v := .ref (G.2.2.2 (23))) dX11_saves_1 fX_0_2 kX11 (by decide) lkf_X11_28 rfl ?_
  refine r_iload_n dX11_saves_4 rfl ?_
  refine r_iload_n dX11_saves_5 rfl ?_
  refine c_Z (inv_V (mi := mi_X11_saves) (b := 23) (rest := []) (X3_hasPair_ok_23 G x1 x2 M) rfl (by decide) dX11_saves_6 lkm_X11_150 cal_X3_hasPair cX_23 rfl rfl (Nat.le_of_ble_eq_true rfl) rfl) ?_
  refine r_ifz_eq (tgt := 22) dX11_saves_9 rfl (fun h1 => ?_) (fun h1 => ?_)
  · refine r_iload_n dX11_saves_12 rfl ?_
    refine r_if_lt (tgt := 22) dX11_saves_13 rfl (fun h2 => ?_) (fun h2 => ?_)
    · refine r_iconst (x := (-1)) dX11_saves_22 rfl ?_
      exact r_iret (ty := .int) dX11_saves_23 rfl rfl rfl
    refine r_iload_n dX11_saves_16 rfl ?_
    refine r_bipush (x := 99) dX11_saves_17 rfl ?_
    refine r_icmp_le (tgt := 24) dX11_saves_19 rfl (fun h3 => ?_) (fun h3 => ?_)
    · refine r_iconst (x := 0) dX11_saves_24 rfl ?_
      refine r_istore (lv' := [some (.ref (G.2.2.2 (0))), some (.int x1), some (.int x2), some (.int x3), some (.int 0)]) dX11_saves_25 (Nat.le_of_ble_eq_true rfl) rfl rfl ?_
      exact r_lk (X11_saves_L1_ok G x1 x2 x3 M zFU 0) (And.intro rfl (And.intro rfl (And.intro rfl (And.intro rfl (And.intro rfl True.intro)))))
    refine r_iconst (x := (-1)) dX11_saves_22 rfl ?_
    exact r_iret (ty := .int) dX11_saves_23 rfl rfl rfl
  refine r_iconst (x := (-1)) dX11_saves_22 rfl ?_
  exact r_iret (ty := .int) dX11_saves_23 rfl rfl rfl

theorem dX11_richest_0 : decode cX11_richest 0 = .ok (.iconst (-1), 1) := by decide +kernel
theorem dX11_richest_1 : decode cX11_richest 1 = .ok (.istore_n 1, 1) := by decide +kernel
theorem dX11_richest_2 : decode cX11_richest 2 = .ok (.iconst 0, 1) := by decide +kernel
theorem dX11_richest_3 : decode cX11_richest 3 = .ok (.istore_n 2, 1) := by decide +kernel
theorem dX11_richest_4 : decode cX11_richest 4 = .ok (.iload_n 2, 1) := by decide +kernel
theorem dX11_richest_5 : decode cX11_richest 5 = .ok (.aload_n 0, 1) := by decide +kernel
theorem dX11_richest_6 : decode cX11_richest 6 = .ok (.getfield 28, 3) := by decide +kernel
theorem dX11_richest_9 : decode cX11_richest 9 = .ok (.getfield 109, 3) := by decide +kernel
theorem dX11_richest_12 : decode cX11_richest 12 = .ok (.if_icmp .ge 35, 3) := by decide +kernel
theorem dX11_richest_15 : decode cX11_richest 15 = .ok (.iload_n 1, 1) := by decide +kernel
theorem dX11_richest_16 : decode cX11_richest 16 = .ok (.iconst (-1), 1) := by decide +kernel
theorem dX11_richest_17 : decode cX11_richest 17 = .ok (.if_icmp .eq 22, 3) := by decide +kernel
theorem dX11_richest_20 : decode cX11_richest 20 = .ok (.aload_n 0, 1) := by decide +kernel
theorem dX11_richest_21 : decode cX11_richest 21 = .ok (.getfield 37, 3) := by decide +kernel
theorem dX11_richest_24 : decode cX11_richest 24 = .ok (.iload_n 2, 1) := by decide +kernel
theorem dX11_richest_25 : decode cX11_richest 25 = .ok (.invokevirtual 134, 3) := by decide +kernel
theorem dX11_richest_28 : decode cX11_richest 28 = .ok (.aload_n 0, 1) := by decide +kernel
theorem dX11_richest_29 : decode cX11_richest 29 = .ok (.getfield 37, 3) := by decide +kernel
theorem dX11_richest_32 : decode cX11_richest 32 = .ok (.iload_n 1, 1) := by decide +kernel
theorem dX11_richest_33 : decode cX11_richest 33 = .ok (.invokevirtual 134, 3) := by decide +kernel
theorem dX11_richest_36 : decode cX11_richest 36 = .ok (.if_icmp .le 5, 3) := by decide +kernel
theorem dX11_richest_39 : decode cX11_richest 39 = .ok (.iload_n 2, 1) := by decide +kernel
theorem dX11_richest_40 : decode cX11_richest 40 = .ok (.istore_n 1, 1) := by decide +kernel
theorem dX11_richest_41 : decode cX11_richest 41 = .ok (.iinc 2 1, 3) := by decide +kernel
theorem dX11_richest_44 : decode cX11_richest 44 = .ok (.goto (-40), 3) := by decide +kernel
theorem dX11_richest_47 : decode cX11_richest 47 = .ok (.iload_n 1, 1) := by decide +kernel
theorem dX11_richest_48 : decode cX11_richest 48 = .ok (.ireturn, 1) := by decide +kernel
abbrev mi_X11_richest : MI := (zTX, RX11, yX11_richest, cX11_richest, 3, (some .int), 5)
theorem cal_X11_richest : zCalV mi_X11_richest 0 := ⟨⟨zTB_i5 163 (by decide +kernel), zTB_i5 161 (by decide +kernel), zTB_i5 162 (by decide +kernel), zTB_i1 1 (by decide +kernel)⟩, ⟨by decide, by decide, by decide +kernel⟩, by decide⟩
noncomputable def X11_richest_L1 (M : Mem) : Nat → Int32 → Int32 → Option (Int32)
  | 0, _, _ => none
  | n + 1, c1, c2 =>
    if (M.1 23 0) ≤ c2 then
      some c1
    else
    b1_ (α := Int32) (
      b1_ (α := Bool) (
        if c1 = (-1) then
          some true
        else
        bo_ (X9_purseSum 35 c2 M) fun v3 =>
        bo_ (X9_purseSum 35 c1 M) fun v4 =>
        if v3 ≤ v4 then
          some false
        else
        some true) fun t6 =>
      if t6 = true then
        some c2
      else
      some c1) fun y8 =>
    X11_richest_L1 M n y8 (c2 + 1)
noncomputable def X11_richest (M : Mem) : Option (Int32) :=
  b1_ (α := Int32) (X11_richest_L1 M zFU (-1) 0) fun e9 =>
  some e9
set_option maxRecDepth 100000 in
set_option maxHeartbeats 4000000 in
theorem X11_richest_L1_ok (G : Gh) (M : Mem) {dn : Option (Int32) → Option (Option Value × Mem)} (hs : dn none = none) (hx : ∀ (e9 : Int32), Wr G mi_X11_richest dn 47 [none, some (.int e9), none] [] M (some e9)) : ∀ (n : Nat) (c1 : Int32) (c2 : Int32), Wr G mi_X11_richest dn 4 [some (.ref (G.2.2.2 (0))), some (.int c1), some (.int c2)] [] M (X11_richest_L1 M n c1 c2) := by
  intro n
  induction n with
  | zero => intro c1 c2; exact r_none (by exact hs)
  | succ n ih =>
    intro c1 c2
    rw [X11_richest_L1]
    refine r_iload_n dX11_richest_4 rfl ?_
    refine r_aload_n dX11_richest_5 rfl ?_
    refine r_getf (v := .ref (G.2.2.2 (23))) dX11_richest_6 fX_0_2 kX11 (by decide) lkf_X11_28 rfl ?_
    refine r_getf (v := .int (M.1 23 0)) dX11_richest_9 fX_23_0 kX3 (by decide) lkf_X11_109 rfl ?_
    refine r_icmp_ge (tgt := 47) dX11_richest_12 rfl (fun h1 => ?_) (fun h1 => ?_)
    · exact r_lk (hx c1) (And.intro rfl True.intro)
    refine r_iload_n dX11_richest_15 rfl ?_
    refine r_iconst (x := (-1)) dX11_richest_16 rfl ?_
    refine r_jB1 (j := 41) (lvj := fun y8 => [some (.ref (G.2.2.2 (0))), some (.int y8), some (.int c2)]) (stj := fun y8 => []) (Mj := fun y8 => M) (fun y8 => ?_) (fun hj41 => ?_)
    · refine r_iinc (y := c2 + 1) (lv' := [some (.ref (G.2.2.2 (0))), some (.int y8), some (.int (c2 + 1))]) dX11_richest_41 rfl rfl (Nat.le_of_ble_eq_true rfl) rfl rfl ?_
      refine r_goto (tgt := 4) dX11_richest_44 rfl ?_
      exact r_lk (ih y8 (c2 + 1)) (And.intro rfl (And.intro rfl (And.intro rfl True.intro)))
    refine r_cB (jX := 39) (jY := 41) (lvX := [some (.ref (G.2.2.2 (0))), none, some (.int c2)]) (lvY := [some (.ref (G.2.2.2 (0))), some (.int c1), some (.int c2)]) (stX := []) (M1 := M) (fun h7 => ?_) (fun h7 => ?_) (fun hX39 hY41 => ?_)
    · refine r_eq (if_pos rfl) ?_
      refine r_iload_n dX11_richest_39 rfl ?_
      refine r_istore_n (lv' := [some (.ref (G.2.2.2 (0))), some (.int c2), some (.int c2)]) dX11_richest_40 (Nat.le_of_ble_eq_true rfl) rfl rfl ?_
      exact r_lk (hj41 c2) (And.intro rfl (And.intro rfl (And.intro rfl True.intro)))
    · refine r_eq (if_neg (by decide)) ?_
      exact r_lk (hj41 c1) (And.intro rfl (And.intro rfl (And.intro rfl True.intro)))
    refine r_icmp_eq (tgt := 39) dX11_richest_17 rfl (fun h2 => ?_) (fun h2 => ?_)
    · exact r_lk hX39 (And.intro rfl (And.intro rfl True.intro))
    refine r_aload_n dX11_richest_20 rfl ?_
    refine r_getf (v := .ref (G.2.2.2 (35))) dX11_richest_21 fX_0_3 kX11 (by decide) lkf_X11_37 rfl ?_
    refine r_iload_n dX11_richest_24 rfl ?_
    refine c_OI (by exact hs) (inv_V (mi := mi_X11_richest) (b := 35) (rest := []) (X9_purseSum_ok_35 G c2 M) rfl (by decide) dX11_richest_25 lkm_X11_134 cal_X9_purseSum cX_35 rfl rfl (Nat.le_of_ble_eq_true rfl) rfl) (fun v3 => ?_)
    refine r_aload_n dX11_richest_28 rfl ?_
    refine r_getf (v := .ref (G.2.2.2 (35))) dX11_richest_29 fX_0_3 kX11 (by decide) lkf_X11_37 rfl ?_
    refine r_iload_n dX11_richest_32 rfl ?_
    refine c_OI (by exact hs) (inv_V (mi := mi_X11_richest) (b := 35) (rest := [.int v3]) (X9_purseSum_ok_35 G c1 M) rfl (by decide) dX11_richest_33 lkm_X11_134 cal_X9_purseSum cX_35 rfl rfl (Nat.le_of_ble_eq_true rfl) rfl) (fun v4 => ?_)
    refine r_icmp_le (tgt := 41) dX11_richest_36 rfl (fun h5 => ?_) (fun h5 => ?_)
    · exact r_lk hY41 (And.intro rfl (And.intro rfl (And.intro rfl True.intro)))
    exact r_lk hX39 (And.intro rfl (And.intro rfl True.intro))
set_option maxRecDepth 100000 in
set_option maxHeartbeats 4000000 in
theorem X11_richest_ok (G : Gh) (M : Mem) : Mt G mi_X11_richest [.ref (G.2.2.2 (0))] M ((dO (dI M)) (X11_richest M)) := by
  refine Mt_of (lv := [some (.ref (G.2.2.2 (0)))]) (by decide) rfl (Nat.le_of_ble_eq_true rfl) rfl ?_
  refine r_le (lv' := [some (.ref (G.2.2.2 (0))), none, none]) (And.intro rfl True.intro) ?_
  unfold X11_richest
  refine r_iconst (x := (-1)) dX11_richest_0 rfl ?_
  refine r_istore_n (lv' := [some (.ref (G.2.2.2 (0))), some (.int ((-1))), none]) dX11_richest_1 (Nat.le_of_ble_eq_true rfl) rfl rfl ?_
  refine r_iconst (x := 0) dX11_richest_2 rfl ?_
  refine r_istore_n (lv' := [some (.ref (G.2.2.2 (0))), some (.int ((-1))), some (.int 0)]) dX11_richest_3 (Nat.le_of_ble_eq_true rfl) rfl rfl ?_
  refine r_jB1 (j := 47) (lvj := fun e9 => [none, some (.int e9), none]) (stj := fun e9 => []) (Mj := fun e9 => M) (fun e9 => ?_) (fun hj47 => ?_)
  · refine r_iload_n dX11_richest_47 rfl ?_
    exact r_iret (ty := .int) dX11_richest_48 rfl rfl rfl
  exact r_lk (X11_richest_L1_ok G M rfl hj47 zFU (-1) 0) (And.intro rfl (And.intro rfl (And.intro rfl True.intro)))

theorem dX11_gulf_0 : decode cX11_gulf 0 = .ok (.aload_n 0, 1) := by decide +kernel
theorem dX11_gulf_1 : decode cX11_gulf 1 = .ok (.invokevirtual 244, 3) := by decide +kernel
theorem dX11_gulf_4 : decode cX11_gulf 4 = .ok (.istore_n 1, 1) := by decide +kernel
theorem dX11_gulf_5 : decode cX11_gulf 5 = .ok (.iload_n 1, 1) := by decide +kernel
theorem dX11_gulf_6 : decode cX11_gulf 6 = .ok (.iconst (-1), 1) := by decide +kernel
theorem dX11_gulf_7 : decode cX11_gulf 7 = .ok (.if_icmp .ne 5, 3) := by decide +kernel
theorem dX11_gulf_10 : decode cX11_gulf 10 = .ok (.iconst (-1), 1) := by decide +kernel
theorem dX11_gulf_11 : decode cX11_gulf 11 = .ok (.ireturn, 1) := by decide +kernel
theorem dX11_gulf_12 : decode cX11_gulf 12 = .ok (.aload_n 0, 1) := by decide +kernel
theorem dX11_gulf_13 : decode cX11_gulf 13 = .ok (.getfield 37, 3) := by decide +kernel
theorem dX11_gulf_16 : decode cX11_gulf 16 = .ok (.iload_n 1, 1) := by decide +kernel
theorem dX11_gulf_17 : decode cX11_gulf 17 = .ok (.invokevirtual 134, 3) := by decide +kernel
theorem dX11_gulf_20 : decode cX11_gulf 20 = .ok (.istore_n 2, 1) := by decide +kernel
theorem dX11_gulf_21 : decode cX11_gulf 21 = .ok (.iconst 0, 1) := by decide +kernel
theorem dX11_gulf_22 : decode cX11_gulf 22 = .ok (.istore_n 3, 1) := by decide +kernel
theorem dX11_gulf_23 : decode cX11_gulf 23 = .ok (.iload_n 3, 1) := by decide +kernel
theorem dX11_gulf_24 : decode cX11_gulf 24 = .ok (.aload_n 0, 1) := by decide +kernel
theorem dX11_gulf_25 : decode cX11_gulf 25 = .ok (.getfield 28, 3) := by decide +kernel
theorem dX11_gulf_28 : decode cX11_gulf 28 = .ok (.getfield 109, 3) := by decide +kernel
theorem dX11_gulf_31 : decode cX11_gulf 31 = .ok (.if_icmp .ge 22, 3) := by decide +kernel
theorem dX11_gulf_34 : decode cX11_gulf 34 = .ok (.iload_n 2, 1) := by decide +kernel
theorem dX11_gulf_35 : decode cX11_gulf 35 = .ok (.aload_n 0, 1) := by decide +kernel
theorem dX11_gulf_36 : decode cX11_gulf 36 = .ok (.getfield 37, 3) := by decide +kernel
theorem dX11_gulf_39 : decode cX11_gulf 39 = .ok (.iload_n 3, 1) := by decide +kernel
theorem dX11_gulf_40 : decode cX11_gulf 40 = .ok (.invokevirtual 134, 3) := by decide +kernel
theorem dX11_gulf_43 : decode cX11_gulf 43 = .ok (.invokestatic 247, 3) := by decide +kernel
theorem dX11_gulf_46 : decode cX11_gulf 46 = .ok (.istore_n 2, 1) := by decide +kernel
theorem dX11_gulf_47 : decode cX11_gulf 47 = .ok (.iinc 3 1, 3) := by decide +kernel
theorem dX11_gulf_50 : decode cX11_gulf 50 = .ok (.goto (-27), 3) := by decide +kernel
theorem dX11_gulf_53 : decode cX11_gulf 53 = .ok (.aload_n 0, 1) := by decide +kernel
theorem dX11_gulf_54 : decode cX11_gulf 54 = .ok (.getfield 37, 3) := by decide +kernel
theorem dX11_gulf_57 : decode cX11_gulf 57 = .ok (.iload_n 1, 1) := by decide +kernel
theorem dX11_gulf_58 : decode cX11_gulf 58 = .ok (.invokevirtual 134, 3) := by decide +kernel
theorem dX11_gulf_61 : decode cX11_gulf 61 = .ok (.iload_n 2, 1) := by decide +kernel
theorem dX11_gulf_62 : decode cX11_gulf 62 = .ok (.isub, 1) := by decide +kernel
theorem dX11_gulf_63 : decode cX11_gulf 63 = .ok (.ireturn, 1) := by decide +kernel
abbrev mi_X11_gulf : MI := (zTX, RX11, yX11_gulf, cX11_gulf, 4, (some .int), 8)
theorem cal_X11_gulf : zCalV mi_X11_gulf 0 := ⟨⟨zTB_i5 167 (by decide +kernel), zTB_i5 165 (by decide +kernel), zTB_i5 166 (by decide +kernel), zTB_i1 1 (by decide +kernel)⟩, ⟨by decide, by decide, by decide +kernel⟩, by decide⟩
noncomputable def X11_gulf_L1 (M : Mem) : Nat → Int32 → Int32 → Option (Int32)
  | 0, _, _ => none
  | n + 1, c2, c3 =>
    if (M.1 23 0) ≤ c3 then
      some c2
    else
    bo_ (X9_purseSum 35 c3 M) fun v5 =>
    lt_ (α := Int32) ((if v5 < c2 then v5 else c2)) fun y6 =>
    X11_gulf_L1 M n y6 (c3 + 1)
noncomputable def X11_gulf (M : Mem) : Option (Int32) :=
  bo_ (X11_richest M) fun v1 =>
  if v1 = (-1) then
    some (-1)
  else
  bo_ (X9_purseSum 35 v1 M) fun v3 =>
  b1_ (α := Int32) (X11_gulf_L1 M zFU v3 0) fun e7 =>
  bo_ (X9_purseSum 35 v1 M) fun v8 =>
  some (v8 - e7)
set_option maxRecDepth 100000 in
set_option maxHeartbeats 4000000 in
theorem X11_gulf_L1_ok (G : Gh) (v1 : Int32) (M : Mem) {dn : Option (Int32) → Option (Option Value × Mem)} (hs : dn none = none) (hx : ∀ (e7 : Int32), Wr G mi_X11_gulf dn 53 [some (.ref (G.2.2.2 (0))), some (.int v1), some (.int e7), none] [] M (some e7)) : ∀ (n : Nat) (c2 : Int32) (c3 : Int32), Wr G mi_X11_gulf dn 23 [some (.ref (G.2.2.2 (0))), some (.int v1), some (.int c2), some (.int c3)] [] M (X11_gulf_L1 M n c2 c3) := by
  intro n
  induction n with
  | zero => intro c2 c3; exact r_none (by exact hs)
  | succ n ih =>
    intro c2 c3
    rw [X11_gulf_L1]
    refine r_iload_n dX11_gulf_23 rfl ?_
    refine r_aload_n dX11_gulf_24 rfl ?_
    refine r_getf (v := .ref (G.2.2.2 (23))) dX11_gulf_25 fX_0_2 kX11 (by decide) lkf_X11_28 rfl ?_
    refine r_getf (v := .int (M.1 23 0)) dX11_gulf_28 fX_23_0 kX3 (by decide) lkf_X11_109 rfl ?_
    refine r_icmp_ge (tgt := 53) dX11_gulf_31 rfl (fun h4 => ?_) (fun h4 => ?_)
    · exact r_lk (hx c2) (And.intro rfl (And.intro rfl (And.intro rfl True.intro)))
    refine r_iload_n dX11_gulf_34 rfl ?_
    refine r_aload_n dX11_gulf_35 rfl ?_
    refine r_getf (v := .ref (G.2.2.2 (35))) dX11_gulf_36 fX_0_3 kX11 (by decide) lkf_X11_37 rfl ?_
    refine r_iload_n dX11_gulf_39 rfl ?_
    refine c_OI (by exact hs) (inv_V (mi := mi_X11_gulf) (b := 35) (rest := [.int c2]) (X9_purseSum_ok_35 G c3 M) rfl (by decide) dX11_gulf_40 lkm_X11_134 cal_X9_purseSum cX_35 rfl rfl (Nat.le_of_ble_eq_true rfl) rfl) (fun v5 => ?_)
    refine r_min dX11_gulf_43 lkm_X11_247 tw_mmin1 tw_m2 tw_mmin3 (by decide) (Nat.le_of_ble_eq_true rfl) ?_
    refine r_letI (fun y6 => ?_)
    refine r_istore_n (lv' := [some (.ref (G.2.2.2 (0))), some (.int v1), some (.int y6), some (.int c3)]) dX11_gulf_46 (Nat.le_of_ble_eq_true rfl) rfl rfl ?_
    refine r_iinc (y := c3 + 1) (lv' := [some (.ref (G.2.2.2 (0))), some (.int v1), some (.int y6), some (.int (c3 + 1))]) dX11_gulf_47 rfl rfl (Nat.le_of_ble_eq_true rfl) rfl rfl ?_
    refine r_goto (tgt := 23) dX11_gulf_50 rfl ?_
    exact r_lk (ih y6 (c3 + 1)) (And.intro rfl (And.intro rfl (And.intro rfl (And.intro rfl True.intro))))
set_option maxRecDepth 100000 in
set_option maxHeartbeats 4000000 in
theorem X11_gulf_ok (G : Gh) (M : Mem) : Mt G mi_X11_gulf [.ref (G.2.2.2 (0))] M ((dO (dI M)) (X11_gulf M)) := by
  refine Mt_of (lv := [some (.ref (G.2.2.2 (0)))]) (by decide) rfl (Nat.le_of_ble_eq_true rfl) rfl ?_
  refine r_le (lv' := [some (.ref (G.2.2.2 (0))), none, none, none]) (And.intro rfl True.intro) ?_
  unfold X11_gulf
  refine r_aload_n dX11_gulf_0 rfl ?_
  refine c_OI rfl (inv_V (mi := mi_X11_gulf) (b := 0) (rest := []) (X11_richest_ok G M) rfl (by decide) dX11_gulf_1 lkm_X11_244 cal_X11_richest cX_0 rfl rfl (Nat.le_of_ble_eq_true rfl) rfl) (fun v1 => ?_)
  refine r_istore_n (lv' := [some (.ref (G.2.2.2 (0))), some (.int v1), none, none]) dX11_gulf_4 (Nat.le_of_ble_eq_true rfl) rfl rfl ?_
  refine r_iload_n dX11_gulf_5 rfl ?_
  refine r_iconst (x := (-1)) dX11_gulf_6 rfl ?_
  refine r_icmp_ne (tgt := 12) dX11_gulf_7 rfl (fun h2 => ?_) (fun h2 => ?_)
  · refine r_iconst (x := (-1)) dX11_gulf_10 rfl ?_
    exact r_iret (ty := .int) dX11_gulf_11 rfl rfl rfl
  refine r_aload_n dX11_gulf_12 rfl ?_
  refine r_getf (v := .ref (G.2.2.2 (35))) dX11_gulf_13 fX_0_3 kX11 (by decide) lkf_X11_37 rfl ?_
  refine r_iload_n dX11_gulf_16 rfl ?_
  refine c_OI rfl (inv_V (mi := mi_X11_gulf) (b := 35) (rest := []) (X9_purseSum_ok_35 G v1 M) rfl (by decide) dX11_gulf_17 lkm_X11_134 cal_X9_purseSum cX_35 rfl rfl (Nat.le_of_ble_eq_true rfl) rfl) (fun v3 => ?_)
  refine r_istore_n (lv' := [some (.ref (G.2.2.2 (0))), some (.int v1), some (.int v3), none]) dX11_gulf_20 (Nat.le_of_ble_eq_true rfl) rfl rfl ?_
  refine r_iconst (x := 0) dX11_gulf_21 rfl ?_
  refine r_istore_n (lv' := [some (.ref (G.2.2.2 (0))), some (.int v1), some (.int v3), some (.int 0)]) dX11_gulf_22 (Nat.le_of_ble_eq_true rfl) rfl rfl ?_
  refine r_jB1 (j := 53) (lvj := fun e7 => [some (.ref (G.2.2.2 (0))), some (.int v1), some (.int e7), none]) (stj := fun e7 => []) (Mj := fun e7 => M) (fun e7 => ?_) (fun hj53 => ?_)
  · refine r_aload_n dX11_gulf_53 rfl ?_
    refine r_getf (v := .ref (G.2.2.2 (35))) dX11_gulf_54 fX_0_3 kX11 (by decide) lkf_X11_37 rfl ?_
    refine r_iload_n dX11_gulf_57 rfl ?_
    refine c_OI rfl (inv_V (mi := mi_X11_gulf) (b := 35) (rest := []) (X9_purseSum_ok_35 G v1 M) rfl (by decide) dX11_gulf_58 lkm_X11_134 cal_X9_purseSum cX_35 rfl rfl (Nat.le_of_ble_eq_true rfl) rfl) (fun v8 => ?_)
    refine r_iload_n dX11_gulf_61 rfl ?_
    refine r_isub dX11_gulf_62 ?_
    exact r_iret (ty := .int) dX11_gulf_63 rfl rfl rfl
  exact r_lk (X11_gulf_L1_ok G v1 M rfl hj53 zFU v3 0) (And.intro rfl (And.intro rfl (And.intro rfl (And.intro rfl True.intro))))

theorem dX11_most_0 : decode cX11_most 0 = .ok (.aload_n 0, 1) := by decide +kernel
theorem dX11_most_1 : decode cX11_most 1 = .ok (.getfield 28, 3) := by decide +kernel
theorem dX11_most_4 : decode cX11_most 4 = .ok (.iload_n 1, 1) := by decide +kernel
theorem dX11_most_5 : decode cX11_most 5 = .ok (.invokevirtual 119, 3) := by decide +kernel
theorem dX11_most_8 : decode cX11_most 8 = .ok (.ifCond .ne 5, 3) := by decide +kernel
theorem dX11_most_11 : decode cX11_most 11 = .ok (.iconst (-1), 1) := by decide +kernel
theorem dX11_most_12 : decode cX11_most 12 = .ok (.ireturn, 1) := by decide +kernel
theorem dX11_most_13 : decode cX11_most 13 = .ok (.iconst (-1), 1) := by decide +kernel
theorem dX11_most_14 : decode cX11_most 14 = .ok (.istore_n 2, 1) := by decide +kernel
theorem dX11_most_15 : decode cX11_most 15 = .ok (.iconst 0, 1) := by decide +kernel
theorem dX11_most_16 : decode cX11_most 16 = .ok (.istore_n 3, 1) := by decide +kernel
theorem dX11_most_17 : decode cX11_most 17 = .ok (.iload_n 3, 1) := by decide +kernel
theorem dX11_most_18 : decode cX11_most 18 = .ok (.aload_n 0, 1) := by decide +kernel
theorem dX11_most_19 : decode cX11_most 19 = .ok (.getfield 28, 3) := by decide +kernel
theorem dX11_most_22 : decode cX11_most 22 = .ok (.getfield 204, 3) := by decide +kernel
theorem dX11_most_25 : decode cX11_most 25 = .ok (.if_icmp .ge 37, 3) := by decide +kernel
theorem dX11_most_28 : decode cX11_most 28 = .ok (.iload_n 2, 1) := by decide +kernel
theorem dX11_most_29 : decode cX11_most 29 = .ok (.iconst (-1), 1) := by decide +kernel
theorem dX11_most_30 : decode cX11_most 30 = .ok (.if_icmp .eq 24, 3) := by decide +kernel
theorem dX11_most_33 : decode cX11_most 33 = .ok (.aload_n 0, 1) := by decide +kernel
theorem dX11_most_34 : decode cX11_most 34 = .ok (.getfield 37, 3) := by decide +kernel
theorem dX11_most_37 : decode cX11_most 37 = .ok (.iload_n 1, 1) := by decide +kernel
theorem dX11_most_38 : decode cX11_most 38 = .ok (.iload_n 3, 1) := by decide +kernel
theorem dX11_most_39 : decode cX11_most 39 = .ok (.invokevirtual 154, 3) := by decide +kernel
theorem dX11_most_42 : decode cX11_most 42 = .ok (.aload_n 0, 1) := by decide +kernel
theorem dX11_most_43 : decode cX11_most 43 = .ok (.getfield 37, 3) := by decide +kernel
theorem dX11_most_46 : decode cX11_most 46 = .ok (.iload_n 1, 1) := by decide +kernel
theorem dX11_most_47 : decode cX11_most 47 = .ok (.iload_n 2, 1) := by decide +kernel
theorem dX11_most_48 : decode cX11_most 48 = .ok (.invokevirtual 154, 3) := by decide +kernel
theorem dX11_most_51 : decode cX11_most 51 = .ok (.if_icmp .le 5, 3) := by decide +kernel
theorem dX11_most_54 : decode cX11_most 54 = .ok (.iload_n 3, 1) := by decide +kernel
theorem dX11_most_55 : decode cX11_most 55 = .ok (.istore_n 2, 1) := by decide +kernel
theorem dX11_most_56 : decode cX11_most 56 = .ok (.iinc 3 1, 3) := by decide +kernel
theorem dX11_most_59 : decode cX11_most 59 = .ok (.goto (-42), 3) := by decide +kernel
theorem dX11_most_62 : decode cX11_most 62 = .ok (.iload_n 2, 1) := by decide +kernel
theorem dX11_most_63 : decode cX11_most 63 = .ok (.ireturn, 1) := by decide +kernel
abbrev mi_X11_most : MI := (zTX, RX11, yX11_most, cX11_most, 4, (some .int), 4)
theorem cal_X11_most : zCalV mi_X11_most 1 := ⟨⟨zTB_i5 172 (by decide +kernel), zTB_i5 170 (by decide +kernel), zTB_i5 171 (by decide +kernel), zTB_i1 1 (by decide +kernel)⟩, ⟨by decide, by decide, by decide +kernel⟩, by decide⟩
noncomputable def X11_most_L1 (x1 : Int32) (M : Mem) : Nat → Int32 → Int32 → Option (Int32)
  | 0, _, _ => none
  | n + 1, c2, c3 =>
    if (M.1 23 1) ≤ c3 then
      some c2
    else
    l1_ (α := Int32) (
      l1_ (α := Bool) (
        if c2 = (-1) then
          true
        else
        if (X9_purseOf 35 x1 c3 M) ≤ (X9_purseOf 35 x1 c2 M) then
          false
        else
        true) fun t5 =>
      if t5 = true then
        c3
      else
      c2) fun y7 =>
    X11_most_L1 x1 M n y7 (c3 + 1)
noncomputable def X11_most (x1 : Int32) (M : Mem) : Option (Int32) :=
  if (X3_hasMan 23 x1 M) = true then
    b1_ (α := Int32) (X11_most_L1 x1 M zFU (-1) 0) fun e8 =>
    some e8
  else
  some (-1)
set_option maxRecDepth 100000 in
set_option maxHeartbeats 4000000 in
theorem X11_most_L1_ok (G : Gh) (x1 : Int32) (M : Mem) {dn : Option (Int32) → Option (Option Value × Mem)} (hs : dn none = none) (hx : ∀ (e8 : Int32), Wr G mi_X11_most dn 62 [none, none, some (.int e8), none] [] M (some e8)) : ∀ (n : Nat) (c2 : Int32) (c3 : Int32), Wr G mi_X11_most dn 17 [some (.ref (G.2.2.2 (0))), some (.int x1), some (.int c2), some (.int c3)] [] M (X11_most_L1 x1 M n c2 c3) := by
  intro n
  induction n with
  | zero => intro c2 c3; exact r_none (by exact hs)
  | succ n ih =>
    intro c2 c3
    rw [X11_most_L1]
    refine r_iload_n dX11_most_17 rfl ?_
    refine r_aload_n dX11_most_18 rfl ?_
    refine r_getf (v := .ref (G.2.2.2 (23))) dX11_most_19 fX_0_2 kX11 (by decide) lkf_X11_28 rfl ?_
    refine r_getf (v := .int (M.1 23 1)) dX11_most_22 fX_23_1 kX3 (by decide) lkf_X11_204 rfl ?_
    refine r_icmp_ge (tgt := 62) dX11_most_25 rfl (fun h2 => ?_) (fun h2 => ?_)
    · exact r_lk (hx c2) (And.intro rfl True.intro)
    refine r_iload_n dX11_most_28 rfl ?_
    refine r_iconst (x := (-1)) dX11_most_29 rfl ?_
    refine r_jL1 (j := 56) (lvj := fun y7 => [some (.ref (G.2.2.2 (0))), some (.int x1), some (.int y7), some (.int c3)]) (stj := fun y7 => []) (Mj := fun y7 => M) (fun y7 => ?_) (fun hj56 => ?_)
    · refine r_iinc (y := c3 + 1) (lv' := [some (.ref (G.2.2.2 (0))), some (.int x1), some (.int y7), some (.int (c3 + 1))]) dX11_most_56 rfl rfl (Nat.le_of_ble_eq_true rfl) rfl rfl ?_
      refine r_goto (tgt := 17) dX11_most_59 rfl ?_
      exact r_lk (ih y7 (c3 + 1)) (And.intro rfl (And.intro rfl (And.intro rfl (And.intro rfl True.intro))))
    refine r_cL (jX := 54) (jY := 56) (lvX := [some (.ref (G.2.2.2 (0))), some (.int x1), none, some (.int c3)]) (lvY := [some (.ref (G.2.2.2 (0))), some (.int x1), some (.int c2), some (.int c3)]) (stX := []) (M1 := M) (fun h6 => ?_) (fun h6 => ?_) (fun hX54 hY56 => ?_)
    · refine r_eq (if_pos rfl) ?_
      refine r_iload_n dX11_most_54 rfl ?_
      refine r_istore_n (lv' := [some (.ref (G.2.2.2 (0))), some (.int x1), some (.int c3), some (.int c3)]) dX11_most_55 (Nat.le_of_ble_eq_true rfl) rfl rfl ?_
      exact r_lk (hj56 c3) (And.intro rfl (And.intro rfl (And.intro rfl (And.intro rfl True.intro))))
    · refine r_eq (if_neg (by decide)) ?_
      exact r_lk (hj56 c2) (And.intro rfl (And.intro rfl (And.intro rfl (And.intro rfl True.intro))))
    refine r_icmp_eq (tgt := 54) dX11_most_30 rfl (fun h3 => ?_) (fun h3 => ?_)
    · exact r_lk hX54 (And.intro rfl (And.intro rfl (And.intro rfl True.intro)))
    refine r_aload_n dX11_most_33 rfl ?_
    refine r_getf (v := .ref (G.2.2.2 (35))) dX11_most_34 fX_0_3 kX11 (by decide) lkf_X11_37 rfl ?_
    refine r_iload_n dX11_most_37 rfl ?_
    refine r_iload_n dX11_most_38 rfl ?_
    refine c_I (inv_V (mi := mi_X11_most) (b := 35) (rest := []) (X9_purseOf_ok_35 G x1 c3 M) rfl (by decide) dX11_most_39 lkm_X11_154 cal_X9_purseOf cX_35 rfl rfl (Nat.le_of_ble_eq_true rfl) rfl) ?_
    refine r_aload_n dX11_most_42 rfl ?_
    refine r_getf (v := .ref (G.2.2.2 (35))) dX11_most_43 fX_0_3 kX11 (by decide) lkf_X11_37 rfl ?_
    refine r_iload_n dX11_most_46 rfl ?_
    refine r_iload_n dX11_most_47 rfl ?_
    refine c_I (inv_V (mi := mi_X11_most) (b := 35) (rest := [.int ((X9_purseOf 35 x1 c3 M))]) (X9_purseOf_ok_35 G x1 c2 M) rfl (by decide) dX11_most_48 lkm_X11_154 cal_X9_purseOf cX_35 rfl rfl (Nat.le_of_ble_eq_true rfl) rfl) ?_
    refine r_icmp_le (tgt := 56) dX11_most_51 rfl (fun h4 => ?_) (fun h4 => ?_)
    · exact r_lk hY56 (And.intro rfl (And.intro rfl (And.intro rfl (And.intro rfl True.intro))))
    exact r_lk hX54 (And.intro rfl (And.intro rfl (And.intro rfl True.intro)))
set_option maxRecDepth 100000 in
set_option maxHeartbeats 4000000 in
theorem X11_most_ok (G : Gh) (x1 : Int32) (M : Mem) : Mt G mi_X11_most [.ref (G.2.2.2 (0)), .int x1] M ((dO (dI M)) (X11_most x1 M)) := by
  refine Mt_of (lv := [some (.ref (G.2.2.2 (0))), some (.int x1)]) (by decide) rfl (Nat.le_of_ble_eq_true rfl) rfl ?_
  refine r_le (lv' := [some (.ref (G.2.2.2 (0))), some (.int x1), none, none]) (And.intro rfl (And.intro rfl True.intro)) ?_
  unfold X11_most
  refine r_aload_n dX11_most_0 rfl ?_
  refine r_getf (v := .ref (G.2.2.2 (23))) dX11_most_1 fX_0_2 kX11 (by decide) lkf_X11_28 rfl ?_
  refine r_iload_n dX11_most_4 rfl ?_
  refine c_Z (inv_V (mi := mi_X11_most) (b := 23) (rest := []) (X3_hasMan_ok_23 G x1 M) rfl (by decide) dX11_most_5 lkm_X11_119 cal_X3_hasMan cX_23 rfl rfl (Nat.le_of_ble_eq_true rfl) rfl) ?_
  refine r_ifz_ne (tgt := 13) dX11_most_8 rfl (fun h1 => ?_) (fun h1 => ?_)
  · refine r_iconst (x := (-1)) dX11_most_13 rfl ?_
    refine r_istore_n (lv' := [some (.ref (G.2.2.2 (0))), some (.int x1), some (.int ((-1))), none]) dX11_most_14 (Nat.le_of_ble_eq_true rfl) rfl rfl ?_
    refine r_iconst (x := 0) dX11_most_15 rfl ?_
    refine r_istore_n (lv' := [some (.ref (G.2.2.2 (0))), some (.int x1), some (.int ((-1))), some (.int 0)]) dX11_most_16 (Nat.le_of_ble_eq_true rfl) rfl rfl ?_
    refine r_jB1 (j := 62) (lvj := fun e8 => [none, none, some (.int e8), none]) (stj := fun e8 => []) (Mj := fun e8 => M) (fun e8 => ?_) (fun hj62 => ?_)
    · refine r_iload_n dX11_most_62 rfl ?_
      exact r_iret (ty := .int) dX11_most_63 rfl rfl rfl
    exact r_lk (X11_most_L1_ok G x1 M rfl hj62 zFU (-1) 0) (And.intro rfl (And.intro rfl (And.intro rfl (And.intro rfl True.intro))))
  refine r_iconst (x := (-1)) dX11_most_11 rfl ?_
  exact r_iret (ty := .int) dX11_most_12 rfl rfl rfl

theorem dX3_aroundOf_0 : decode cX3_aroundOf 0 = .ok (.getstatic 115, 3) := by decide +kernel
theorem dX3_aroundOf_3 : decode cX3_aroundOf 3 = .ok (.iload_n 1, 1) := by decide +kernel
theorem dX3_aroundOf_4 : decode cX3_aroundOf 4 = .ok (.iconst 3, 1) := by decide +kernel
theorem dX3_aroundOf_5 : decode cX3_aroundOf 5 = .ok (.imul, 1) := by decide +kernel
theorem dX3_aroundOf_6 : decode cX3_aroundOf 6 = .ok (.invokestatic 94, 3) := by decide +kernel
theorem dX3_aroundOf_9 : decode cX3_aroundOf 9 = .ok (.istore_n 2, 1) := by decide +kernel
theorem dX3_aroundOf_10 : decode cX3_aroundOf 10 = .ok (.getstatic 115, 3) := by decide +kernel
theorem dX3_aroundOf_13 : decode cX3_aroundOf 13 = .ok (.iload_n 1, 1) := by decide +kernel
theorem dX3_aroundOf_14 : decode cX3_aroundOf 14 = .ok (.iconst 3, 1) := by decide +kernel
theorem dX3_aroundOf_15 : decode cX3_aroundOf 15 = .ok (.imul, 1) := by decide +kernel
theorem dX3_aroundOf_16 : decode cX3_aroundOf 16 = .ok (.iconst 1, 1) := by decide +kernel
theorem dX3_aroundOf_17 : decode cX3_aroundOf 17 = .ok (.iadd, 1) := by decide +kernel
theorem dX3_aroundOf_18 : decode cX3_aroundOf 18 = .ok (.invokestatic 94, 3) := by decide +kernel
theorem dX3_aroundOf_21 : decode cX3_aroundOf 21 = .ok (.istore_n 3, 1) := by decide +kernel
theorem dX3_aroundOf_22 : decode cX3_aroundOf 22 = .ok (.getstatic 115, 3) := by decide +kernel
theorem dX3_aroundOf_25 : decode cX3_aroundOf 25 = .ok (.iload_n 1, 1) := by decide +kernel
theorem dX3_aroundOf_26 : decode cX3_aroundOf 26 = .ok (.iconst 3, 1) := by decide +kernel
theorem dX3_aroundOf_27 : decode cX3_aroundOf 27 = .ok (.imul, 1) := by decide +kernel
theorem dX3_aroundOf_28 : decode cX3_aroundOf 28 = .ok (.iconst 2, 1) := by decide +kernel
theorem dX3_aroundOf_29 : decode cX3_aroundOf 29 = .ok (.iadd, 1) := by decide +kernel
theorem dX3_aroundOf_30 : decode cX3_aroundOf 30 = .ok (.invokestatic 94, 3) := by decide +kernel
theorem dX3_aroundOf_33 : decode cX3_aroundOf 33 = .ok (.istore 4, 2) := by decide +kernel
theorem dX3_aroundOf_35 : decode cX3_aroundOf 35 = .ok (.iload 4, 2) := by decide +kernel
theorem dX3_aroundOf_37 : decode cX3_aroundOf 37 = .ok (.iconst (-1), 1) := by decide +kernel
theorem dX3_aroundOf_38 : decode cX3_aroundOf 38 = .ok (.if_icmp .ne 23, 3) := by decide +kernel
theorem dX3_aroundOf_41 : decode cX3_aroundOf 41 = .ok (.aload_n 0, 1) := by decide +kernel
theorem dX3_aroundOf_42 : decode cX3_aroundOf 42 = .ok (.iload_n 2, 1) := by decide +kernel
theorem dX3_aroundOf_43 : decode cX3_aroundOf 43 = .ok (.iconst 3, 1) := by decide +kernel
theorem dX3_aroundOf_44 : decode cX3_aroundOf 44 = .ok (.imul, 1) := by decide +kernel
theorem dX3_aroundOf_45 : decode cX3_aroundOf 45 = .ok (.iload_n 3, 1) := by decide +kernel
theorem dX3_aroundOf_46 : decode cX3_aroundOf 46 = .ok (.iadd, 1) := by decide +kernel
theorem dX3_aroundOf_47 : decode cX3_aroundOf 47 = .ok (.invokestatic 94, 3) := by decide +kernel
theorem dX3_aroundOf_50 : decode cX3_aroundOf 50 = .ok (.aload_n 0, 1) := by decide +kernel
theorem dX3_aroundOf_51 : decode cX3_aroundOf 51 = .ok (.iload_n 3, 1) := by decide +kernel
theorem dX3_aroundOf_52 : decode cX3_aroundOf 52 = .ok (.iconst 3, 1) := by decide +kernel
theorem dX3_aroundOf_53 : decode cX3_aroundOf 53 = .ok (.imul, 1) := by decide +kernel
theorem dX3_aroundOf_54 : decode cX3_aroundOf 54 = .ok (.iload_n 2, 1) := by decide +kernel
theorem dX3_aroundOf_55 : decode cX3_aroundOf 55 = .ok (.iadd, 1) := by decide +kernel
theorem dX3_aroundOf_56 : decode cX3_aroundOf 56 = .ok (.invokestatic 94, 3) := by decide +kernel
theorem dX3_aroundOf_59 : decode cX3_aroundOf 59 = .ok (.imul, 1) := by decide +kernel
theorem dX3_aroundOf_60 : decode cX3_aroundOf 60 = .ok (.ireturn, 1) := by decide +kernel
theorem dX3_aroundOf_61 : decode cX3_aroundOf 61 = .ok (.aload_n 0, 1) := by decide +kernel
theorem dX3_aroundOf_62 : decode cX3_aroundOf 62 = .ok (.iload_n 2, 1) := by decide +kernel
theorem dX3_aroundOf_63 : decode cX3_aroundOf 63 = .ok (.iconst 3, 1) := by decide +kernel
theorem dX3_aroundOf_64 : decode cX3_aroundOf 64 = .ok (.imul, 1) := by decide +kernel
theorem dX3_aroundOf_65 : decode cX3_aroundOf 65 = .ok (.iload_n 3, 1) := by decide +kernel
theorem dX3_aroundOf_66 : decode cX3_aroundOf 66 = .ok (.iadd, 1) := by decide +kernel
theorem dX3_aroundOf_67 : decode cX3_aroundOf 67 = .ok (.invokestatic 94, 3) := by decide +kernel
theorem dX3_aroundOf_70 : decode cX3_aroundOf 70 = .ok (.aload_n 0, 1) := by decide +kernel
theorem dX3_aroundOf_71 : decode cX3_aroundOf 71 = .ok (.iload_n 3, 1) := by decide +kernel
theorem dX3_aroundOf_72 : decode cX3_aroundOf 72 = .ok (.iconst 3, 1) := by decide +kernel
theorem dX3_aroundOf_73 : decode cX3_aroundOf 73 = .ok (.imul, 1) := by decide +kernel
theorem dX3_aroundOf_74 : decode cX3_aroundOf 74 = .ok (.iload 4, 2) := by decide +kernel
theorem dX3_aroundOf_76 : decode cX3_aroundOf 76 = .ok (.iadd, 1) := by decide +kernel
theorem dX3_aroundOf_77 : decode cX3_aroundOf 77 = .ok (.invokestatic 94, 3) := by decide +kernel
theorem dX3_aroundOf_80 : decode cX3_aroundOf 80 = .ok (.imul, 1) := by decide +kernel
theorem dX3_aroundOf_81 : decode cX3_aroundOf 81 = .ok (.aload_n 0, 1) := by decide +kernel
theorem dX3_aroundOf_82 : decode cX3_aroundOf 82 = .ok (.iload 4, 2) := by decide +kernel
theorem dX3_aroundOf_84 : decode cX3_aroundOf 84 = .ok (.iconst 3, 1) := by decide +kernel
theorem dX3_aroundOf_85 : decode cX3_aroundOf 85 = .ok (.imul, 1) := by decide +kernel
theorem dX3_aroundOf_86 : decode cX3_aroundOf 86 = .ok (.iload_n 2, 1) := by decide +kernel
theorem dX3_aroundOf_87 : decode cX3_aroundOf 87 = .ok (.iadd, 1) := by decide +kernel
theorem dX3_aroundOf_88 : decode cX3_aroundOf 88 = .ok (.invokestatic 94, 3) := by decide +kernel
theorem dX3_aroundOf_91 : decode cX3_aroundOf 91 = .ok (.imul, 1) := by decide +kernel
theorem dX3_aroundOf_92 : decode cX3_aroundOf 92 = .ok (.ireturn, 1) := by decide +kernel
abbrev mi_X3_aroundOf : MI := (zTX, RX3, yX3_aroundOf, cX3_aroundOf, 5, (some .int), 3)
theorem cal_X3_aroundOf : zCalS mi_X3_aroundOf 2 := ⟨⟨zTB_i5 187 (by decide +kernel), zTB_i5 186 (by decide +kernel), zTB_i1 4 (by decide +kernel)⟩, ⟨by decide, by decide, by decide +kernel⟩, by decide⟩
noncomputable def X3_aroundOf (a0 : Nat) (x1 : Int32) (M : Mem) : Int32 :=
  lt_ (α := Int32) ((X11_cellR ((x1 * 3) + 1))) fun y1 =>
  lt_ (α := Int32) ((X11_cellR ((x1 * 3) + 2))) fun y2 =>
  if y2 = (-1) then
    (X11_cell a0 (((X11_cellR (x1 * 3)) * 3) + y1) M) * (X11_cell a0 ((y1 * 3) + (X11_cellR (x1 * 3))) M)
  else
  ((X11_cell a0 (((X11_cellR (x1 * 3)) * 3) + y1) M) * (X11_cell a0 ((y1 * 3) + y2) M)) * (X11_cell a0 ((y2 * 3) + (X11_cellR (x1 * 3))) M)
set_option maxRecDepth 100000 in
set_option maxHeartbeats 4000000 in
theorem X3_aroundOf_ok (G : Gh) {a0 : Nat} (ha0 : zar zTX a0 = some (0, zlen zTX a0)) (x1 : Int32) (M : Mem) : Mt G mi_X3_aroundOf [.ref (G.2.2.2 (a0)), .int x1] M ((dI M) (X3_aroundOf a0 x1 M)) := by
  refine Mt_of (lv := [some (.ref (G.2.2.2 (a0))), some (.int x1)]) (by decide) rfl (Nat.le_of_ble_eq_true rfl) rfl ?_
  refine r_le (lv' := [some (.ref (G.2.2.2 (a0))), some (.int x1), none, none, none]) (And.intro rfl (And.intro rfl True.intro)) ?_
  unfold X3_aroundOf
  refine r_gets dX3_aroundOf_0 lkf_X3_115 ?_
  refine r_iload_n dX3_aroundOf_3 rfl ?_
  refine r_iconst (x := 3) dX3_aroundOf_4 rfl ?_
  refine r_imul dX3_aroundOf_5 ?_
  refine c_I (inv_SN (mi := mi_X3_aroundOf) (rest := []) (X11_cellR_ok G (x1 * 3) M) rfl (by decide) dX3_aroundOf_6 lkm_X3_94 cal_X11_cell rfl (Nat.le_of_ble_eq_true rfl) rfl) ?_
  refine r_istore_n (lv' := [some (.ref (G.2.2.2 (a0))), some (.int x1), some (.int ((X11_cellR (x1 * 3)))), none, none]) dX3_aroundOf_9 (Nat.le_of_ble_eq_true rfl) rfl rfl ?_
  refine r_gets dX3_aroundOf_10 lkf_X3_115 ?_
  refine r_iload_n dX3_aroundOf_13 rfl ?_
  refine r_iconst (x := 3) dX3_aroundOf_14 rfl ?_
  refine r_imul dX3_aroundOf_15 ?_
  refine r_iconst (x := 1) dX3_aroundOf_16 rfl ?_
  refine r_iadd dX3_aroundOf_17 ?_
  refine c_I (inv_SN (mi := mi_X3_aroundOf) (rest := []) (X11_cellR_ok G ((x1 * 3) + 1) M) rfl (by decide) dX3_aroundOf_18 lkm_X3_94 cal_X11_cell rfl (Nat.le_of_ble_eq_true rfl) rfl) ?_
  refine r_letI (fun y1 => ?_)
  refine r_istore_n (lv' := [some (.ref (G.2.2.2 (a0))), some (.int x1), some (.int ((X11_cellR (x1 * 3)))), some (.int y1), none]) dX3_aroundOf_21 (Nat.le_of_ble_eq_true rfl) rfl rfl ?_
  refine r_gets dX3_aroundOf_22 lkf_X3_115 ?_
  refine r_iload_n dX3_aroundOf_25 rfl ?_
  refine r_iconst (x := 3) dX3_aroundOf_26 rfl ?_
  refine r_imul dX3_aroundOf_27 ?_
  refine r_iconst (x := 2) dX3_aroundOf_28 rfl ?_
  refine r_iadd dX3_aroundOf_29 ?_
  refine c_I (inv_SN (mi := mi_X3_aroundOf) (rest := []) (X11_cellR_ok G ((x1 * 3) + 2) M) rfl (by decide) dX3_aroundOf_30 lkm_X3_94 cal_X11_cell rfl (Nat.le_of_ble_eq_true rfl) rfl) ?_
  refine r_letI (fun y2 => ?_)
  refine r_istore (lv' := [some (.ref (G.2.2.2 (a0))), some (.int x1), some (.int ((X11_cellR (x1 * 3)))), some (.int y1), some (.int y2)]) dX3_aroundOf_33 (Nat.le_of_ble_eq_true rfl) rfl rfl ?_
  refine r_iload dX3_aroundOf_35 rfl ?_
  refine r_iconst (x := (-1)) dX3_aroundOf_37 rfl ?_
  refine r_icmp_ne (tgt := 61) dX3_aroundOf_38 rfl (fun h3 => ?_) (fun h3 => ?_)
  · refine r_aload_n dX3_aroundOf_41 rfl ?_
    refine r_iload_n dX3_aroundOf_42 rfl ?_
    refine r_iconst (x := 3) dX3_aroundOf_43 rfl ?_
    refine r_imul dX3_aroundOf_44 ?_
    refine r_iload_n dX3_aroundOf_45 rfl ?_
    refine r_iadd dX3_aroundOf_46 ?_
    refine c_I (inv_SN (mi := mi_X3_aroundOf) (rest := []) (X11_cell_ok G ha0 (((X11_cellR (x1 * 3)) * 3) + y1) M) rfl (by decide) dX3_aroundOf_47 lkm_X3_94 cal_X11_cell rfl (Nat.le_of_ble_eq_true rfl) rfl) ?_
    refine r_aload_n dX3_aroundOf_50 rfl ?_
    refine r_iload_n dX3_aroundOf_51 rfl ?_
    refine r_iconst (x := 3) dX3_aroundOf_52 rfl ?_
    refine r_imul dX3_aroundOf_53 ?_
    refine r_iload_n dX3_aroundOf_54 rfl ?_
    refine r_iadd dX3_aroundOf_55 ?_
    refine c_I (inv_SN (mi := mi_X3_aroundOf) (rest := [.int ((X11_cell a0 (((X11_cellR (x1 * 3)) * 3) + y1) M))]) (X11_cell_ok G ha0 ((y1 * 3) + (X11_cellR (x1 * 3))) M) rfl (by decide) dX3_aroundOf_56 lkm_X3_94 cal_X11_cell rfl (Nat.le_of_ble_eq_true rfl) rfl) ?_
    refine r_imul dX3_aroundOf_59 ?_
    exact r_iret (ty := .int) dX3_aroundOf_60 rfl rfl rfl
  refine r_aload_n dX3_aroundOf_61 rfl ?_
  refine r_iload_n dX3_aroundOf_62 rfl ?_
  refine r_iconst (x := 3) dX3_aroundOf_63 rfl ?_
  refine r_imul dX3_aroundOf_64 ?_
  refine r_iload_n dX3_aroundOf_65 rfl ?_
  refine r_iadd dX3_aroundOf_66 ?_
  refine c_I (inv_SN (mi := mi_X3_aroundOf) (rest := []) (X11_cell_ok G ha0 (((X11_cellR (x1 * 3)) * 3) + y1) M) rfl (by decide) dX3_aroundOf_67 lkm_X3_94 cal_X11_cell rfl (Nat.le_of_ble_eq_true rfl) rfl) ?_
  refine r_aload_n dX3_aroundOf_70 rfl ?_
  refine r_iload_n dX3_aroundOf_71 rfl ?_
  refine r_iconst (x := 3) dX3_aroundOf_72 rfl ?_
  refine r_imul dX3_aroundOf_73 ?_
  refine r_iload dX3_aroundOf_74 rfl ?_
  refine r_iadd dX3_aroundOf_76 ?_
  refine c_I (inv_SN (mi := mi_X3_aroundOf) (rest := [.int ((X11_cell a0 (((X11_cellR (x1 * 3)) * 3) + y1) M))]) (X11_cell_ok G ha0 ((y1 * 3) + y2) M) rfl (by decide) dX3_aroundOf_77 lkm_X3_94 cal_X11_cell rfl (Nat.le_of_ble_eq_true rfl) rfl) ?_
  refine r_imul dX3_aroundOf_80 ?_
  refine r_aload_n dX3_aroundOf_81 rfl ?_
  refine r_iload dX3_aroundOf_82 rfl ?_
  refine r_iconst (x := 3) dX3_aroundOf_84 rfl ?_
  refine r_imul dX3_aroundOf_85 ?_
  refine r_iload_n dX3_aroundOf_86 rfl ?_
  refine r_iadd dX3_aroundOf_87 ?_
  refine c_I (inv_SN (mi := mi_X3_aroundOf) (rest := [.int ((X11_cell a0 (((X11_cellR (x1 * 3)) * 3) + y1) M) * (X11_cell a0 ((y1 * 3) + y2) M))]) (X11_cell_ok G ha0 ((y2 * 3) + (X11_cellR (x1 * 3))) M) rfl (by decide) dX3_aroundOf_88 lkm_X3_94 cal_X11_cell rfl (Nat.le_of_ble_eq_true rfl) rfl) ?_
  refine r_imul dX3_aroundOf_91 ?_
  exact r_iret (ty := .int) dX3_aroundOf_92 rfl rfl rfl

theorem dX3_roundGiven_0 : decode cX3_roundGiven 0 = .ok (.aload_n 0, 1) := by decide +kernel
theorem dX3_roundGiven_1 : decode cX3_roundGiven 1 = .ok (.getfield 27, 3) := by decide +kernel
theorem dX3_roundGiven_4 : decode cX3_roundGiven 4 = .ok (.iload_n 1, 1) := by decide +kernel
theorem dX3_roundGiven_5 : decode cX3_roundGiven 5 = .ok (.invokestatic 112, 3) := by decide +kernel
theorem dX3_roundGiven_8 : decode cX3_roundGiven 8 = .ok (.ireturn, 1) := by decide +kernel
abbrev mi_X3_roundGiven : MI := (zTX, RX3, yX3_roundGiven, cX3_roundGiven, 2, (some .int), 4)
theorem cal_X3_roundGiven : zCalV mi_X3_roundGiven 1 := ⟨⟨zTB_i5 184 (by decide +kernel), zTB_i5 182 (by decide +kernel), zTB_i5 183 (by decide +kernel), zTB_i1 4 (by decide +kernel)⟩, ⟨by decide, by decide, by decide +kernel⟩, by decide⟩
noncomputable def X3_roundGiven (o0 : Nat) (x1 : Int32) (M : Mem) : Int32 :=
  (X3_aroundOf (o0 + 6) x1 M)
set_option maxRecDepth 100000 in
set_option maxHeartbeats 4000000 in
theorem X3_roundGiven_ok_4 (G : Gh) (x1 : Int32) (M : Mem) : Mt G mi_X3_roundGiven [.ref (G.2.2.2 (4)), .int x1] M ((dI M) (X3_roundGiven 4 x1 M)) := by
  refine Mt_of (lv := [some (.ref (G.2.2.2 (4))), some (.int x1)]) (by decide) rfl (Nat.le_of_ble_eq_true rfl) rfl ?_
  unfold X3_roundGiven
  refine r_aload_n dX3_roundGiven_0 rfl ?_
  refine r_getf (v := .ref (G.2.2.2 (4 + 6))) dX3_roundGiven_1 fX_4_11 kX3 (by decide) lkf_X3_27 rfl ?_
  refine r_iload_n dX3_roundGiven_4 rfl ?_
  refine c_I (inv_S (mi := mi_X3_roundGiven) (rest := []) (X3_aroundOf_ok G aX_10p x1 M) rfl (by decide) dX3_roundGiven_5 lkm_X3_112 cal_X3_aroundOf rfl (Nat.le_of_ble_eq_true rfl) rfl) ?_
  exact r_iret (ty := .int) dX3_roundGiven_8 rfl rfl rfl
set_option maxRecDepth 100000 in
set_option maxHeartbeats 4000000 in
theorem X3_roundGiven_ok_23 (G : Gh) (x1 : Int32) (M : Mem) : Mt G mi_X3_roundGiven [.ref (G.2.2.2 (23)), .int x1] M ((dI M) (X3_roundGiven 23 x1 M)) := by
  refine Mt_of (lv := [some (.ref (G.2.2.2 (23))), some (.int x1)]) (by decide) rfl (Nat.le_of_ble_eq_true rfl) rfl ?_
  unfold X3_roundGiven
  refine r_aload_n dX3_roundGiven_0 rfl ?_
  refine r_getf (v := .ref (G.2.2.2 (23 + 6))) dX3_roundGiven_1 fX_23_11 kX3 (by decide) lkf_X3_27 rfl ?_
  refine r_iload_n dX3_roundGiven_4 rfl ?_
  refine c_I (inv_S (mi := mi_X3_roundGiven) (rest := []) (X3_aroundOf_ok G aX_29p x1 M) rfl (by decide) dX3_roundGiven_5 lkm_X3_112 cal_X3_aroundOf rfl (Nat.le_of_ble_eq_true rfl) rfl) ?_
  exact r_iret (ty := .int) dX3_roundGiven_8 rfl rfl rfl

theorem dX3_roundGot_0 : decode cX3_roundGot 0 = .ok (.aload_n 0, 1) := by decide +kernel
theorem dX3_roundGot_1 : decode cX3_roundGot 1 = .ok (.getfield 30, 3) := by decide +kernel
theorem dX3_roundGot_4 : decode cX3_roundGot 4 = .ok (.iload_n 1, 1) := by decide +kernel
theorem dX3_roundGot_5 : decode cX3_roundGot 5 = .ok (.invokestatic 112, 3) := by decide +kernel
theorem dX3_roundGot_8 : decode cX3_roundGot 8 = .ok (.ireturn, 1) := by decide +kernel
abbrev mi_X3_roundGot : MI := (zTX, RX3, yX3_roundGot, cX3_roundGot, 2, (some .int), 4)
theorem cal_X3_roundGot : zCalV mi_X3_roundGot 1 := ⟨⟨zTB_i5 197 (by decide +kernel), zTB_i5 195 (by decide +kernel), zTB_i5 196 (by decide +kernel), zTB_i1 4 (by decide +kernel)⟩, ⟨by decide, by decide, by decide +kernel⟩, by decide⟩
noncomputable def X3_roundGot (o0 : Nat) (x1 : Int32) (M : Mem) : Int32 :=
  (X3_aroundOf (o0 + 7) x1 M)
set_option maxRecDepth 100000 in
set_option maxHeartbeats 4000000 in
theorem X3_roundGot_ok_4 (G : Gh) (x1 : Int32) (M : Mem) : Mt G mi_X3_roundGot [.ref (G.2.2.2 (4)), .int x1] M ((dI M) (X3_roundGot 4 x1 M)) := by
  refine Mt_of (lv := [some (.ref (G.2.2.2 (4))), some (.int x1)]) (by decide) rfl (Nat.le_of_ble_eq_true rfl) rfl ?_
  unfold X3_roundGot
  refine r_aload_n dX3_roundGot_0 rfl ?_
  refine r_getf (v := .ref (G.2.2.2 (4 + 7))) dX3_roundGot_1 fX_4_12 kX3 (by decide) lkf_X3_30 rfl ?_
  refine r_iload_n dX3_roundGot_4 rfl ?_
  refine c_I (inv_S (mi := mi_X3_roundGot) (rest := []) (X3_aroundOf_ok G aX_11p x1 M) rfl (by decide) dX3_roundGot_5 lkm_X3_112 cal_X3_aroundOf rfl (Nat.le_of_ble_eq_true rfl) rfl) ?_
  exact r_iret (ty := .int) dX3_roundGot_8 rfl rfl rfl
set_option maxRecDepth 100000 in
set_option maxHeartbeats 4000000 in
theorem X3_roundGot_ok_23 (G : Gh) (x1 : Int32) (M : Mem) : Mt G mi_X3_roundGot [.ref (G.2.2.2 (23)), .int x1] M ((dI M) (X3_roundGot 23 x1 M)) := by
  refine Mt_of (lv := [some (.ref (G.2.2.2 (23))), some (.int x1)]) (by decide) rfl (Nat.le_of_ble_eq_true rfl) rfl ?_
  unfold X3_roundGot
  refine r_aload_n dX3_roundGot_0 rfl ?_
  refine r_getf (v := .ref (G.2.2.2 (23 + 7))) dX3_roundGot_1 fX_23_12 kX3 (by decide) lkf_X3_30 rfl ?_
  refine r_iload_n dX3_roundGot_4 rfl ?_
  refine c_I (inv_S (mi := mi_X3_roundGot) (rest := []) (X3_aroundOf_ok G aX_30p x1 M) rfl (by decide) dX3_roundGot_5 lkm_X3_112 cal_X3_aroundOf rfl (Nat.le_of_ble_eq_true rfl) rfl) ?_
  exact r_iret (ty := .int) dX3_roundGot_8 rfl rfl rfl

theorem dX3_isGreater_0 : decode cX3_isGreater 0 = .ok (.aload_n 0, 1) := by decide +kernel
theorem dX3_isGreater_1 : decode cX3_isGreater 1 = .ok (.iload_n 1, 1) := by decide +kernel
theorem dX3_isGreater_2 : decode cX3_isGreater 2 = .ok (.invokevirtual 109, 3) := by decide +kernel
theorem dX3_isGreater_5 : decode cX3_isGreater 5 = .ok (.aload_n 0, 1) := by decide +kernel
theorem dX3_isGreater_6 : decode cX3_isGreater 6 = .ok (.iload_n 2, 1) := by decide +kernel
theorem dX3_isGreater_7 : decode cX3_isGreater 7 = .ok (.invokevirtual 101, 3) := by decide +kernel
theorem dX3_isGreater_10 : decode cX3_isGreater 10 = .ok (.imul, 1) := by decide +kernel
theorem dX3_isGreater_11 : decode cX3_isGreater 11 = .ok (.aload_n 0, 1) := by decide +kernel
theorem dX3_isGreater_12 : decode cX3_isGreater 12 = .ok (.iload_n 2, 1) := by decide +kernel
theorem dX3_isGreater_13 : decode cX3_isGreater 13 = .ok (.invokevirtual 109, 3) := by decide +kernel
theorem dX3_isGreater_16 : decode cX3_isGreater 16 = .ok (.aload_n 0, 1) := by decide +kernel
theorem dX3_isGreater_17 : decode cX3_isGreater 17 = .ok (.iload_n 1, 1) := by decide +kernel
theorem dX3_isGreater_18 : decode cX3_isGreater 18 = .ok (.invokevirtual 101, 3) := by decide +kernel
theorem dX3_isGreater_21 : decode cX3_isGreater 21 = .ok (.imul, 1) := by decide +kernel
theorem dX3_isGreater_22 : decode cX3_isGreater 22 = .ok (.if_icmp .le 7, 3) := by decide +kernel
theorem dX3_isGreater_25 : decode cX3_isGreater 25 = .ok (.iconst 1, 1) := by decide +kernel
theorem dX3_isGreater_26 : decode cX3_isGreater 26 = .ok (.goto 4, 3) := by decide +kernel
theorem dX3_isGreater_29 : decode cX3_isGreater 29 = .ok (.iconst 0, 1) := by decide +kernel
theorem dX3_isGreater_30 : decode cX3_isGreater 30 = .ok (.ireturn, 1) := by decide +kernel
abbrev mi_X3_isGreater : MI := (zTX, RX3, yX3_isGreater, cX3_isGreater, 3, (some .boolean), 5)
theorem cal_X3_isGreater : zCalV mi_X3_isGreater 2 := ⟨⟨zTB_i5 193 (by decide +kernel), zTB_i5 192 (by decide +kernel), zTB_i0 39 (by decide +kernel), zTB_i1 4 (by decide +kernel)⟩, ⟨by decide, by decide, by decide +kernel⟩, by decide⟩
noncomputable def X3_isGreater (o0 : Nat) (x1 : Int32) (x2 : Int32) (M : Mem) : Bool :=
  if ((X3_roundGot o0 x1 M) * (X3_roundGiven o0 x2 M)) ≤ ((X3_roundGot o0 x2 M) * (X3_roundGiven o0 x1 M)) then
    false
  else
  true
set_option maxRecDepth 100000 in
set_option maxHeartbeats 4000000 in
theorem X3_isGreater_ok_4 (G : Gh) (x1 : Int32) (x2 : Int32) (M : Mem) : Mt G mi_X3_isGreater [.ref (G.2.2.2 (4)), .int x1, .int x2] M ((dZ M) (X3_isGreater 4 x1 x2 M)) := by
  refine Mt_of (lv := [some (.ref (G.2.2.2 (4))), some (.int x1), some (.int x2)]) (by decide) rfl (Nat.le_of_ble_eq_true rfl) rfl ?_
  unfold X3_isGreater
  refine r_aload_n dX3_isGreater_0 rfl ?_
  refine r_iload_n dX3_isGreater_1 rfl ?_
  refine c_I (inv_V (mi := mi_X3_isGreater) (b := 4) (rest := []) (X3_roundGot_ok_4 G x1 M) rfl (by decide) dX3_isGreater_2 lkm_X3_109 cal_X3_roundGot cX_4 rfl rfl (Nat.le_of_ble_eq_true rfl) rfl) ?_
  refine r_aload_n dX3_isGreater_5 rfl ?_
  refine r_iload_n dX3_isGreater_6 rfl ?_
  refine c_I (inv_V (mi := mi_X3_isGreater) (b := 4) (rest := [.int ((X3_roundGot 4 x1 M))]) (X3_roundGiven_ok_4 G x2 M) rfl (by decide) dX3_isGreater_7 lkm_X3_101 cal_X3_roundGiven cX_4 rfl rfl (Nat.le_of_ble_eq_true rfl) rfl) ?_
  refine r_imul dX3_isGreater_10 ?_
  refine r_aload_n dX3_isGreater_11 rfl ?_
  refine r_iload_n dX3_isGreater_12 rfl ?_
  refine c_I (inv_V (mi := mi_X3_isGreater) (b := 4) (rest := [.int ((X3_roundGot 4 x1 M) * (X3_roundGiven 4 x2 M))]) (X3_roundGot_ok_4 G x2 M) rfl (by decide) dX3_isGreater_13 lkm_X3_109 cal_X3_roundGot cX_4 rfl rfl (Nat.le_of_ble_eq_true rfl) rfl) ?_
  refine r_aload_n dX3_isGreater_16 rfl ?_
  refine r_iload_n dX3_isGreater_17 rfl ?_
  refine c_I (inv_V (mi := mi_X3_isGreater) (b := 4) (rest := [.int ((X3_roundGot 4 x2 M)), .int ((X3_roundGot 4 x1 M) * (X3_roundGiven 4 x2 M))]) (X3_roundGiven_ok_4 G x1 M) rfl (by decide) dX3_isGreater_18 lkm_X3_101 cal_X3_roundGiven cX_4 rfl rfl (Nat.le_of_ble_eq_true rfl) rfl) ?_
  refine r_imul dX3_isGreater_21 ?_
  refine r_icmp_le (tgt := 29) dX3_isGreater_22 rfl (fun h1 => ?_) (fun h1 => ?_)
  · refine r_iconst (x := 0) dX3_isGreater_29 rfl ?_
    exact r_iret (ty := .boolean) dX3_isGreater_30 rfl rfl rfl
  refine r_iconst (x := 1) dX3_isGreater_25 rfl ?_
  refine r_goto (tgt := 30) dX3_isGreater_26 rfl ?_
  exact r_iret (ty := .boolean) dX3_isGreater_30 rfl rfl rfl
set_option maxRecDepth 100000 in
set_option maxHeartbeats 4000000 in
theorem X3_isGreater_ok_23 (G : Gh) (x1 : Int32) (x2 : Int32) (M : Mem) : Mt G mi_X3_isGreater [.ref (G.2.2.2 (23)), .int x1, .int x2] M ((dZ M) (X3_isGreater 23 x1 x2 M)) := by
  refine Mt_of (lv := [some (.ref (G.2.2.2 (23))), some (.int x1), some (.int x2)]) (by decide) rfl (Nat.le_of_ble_eq_true rfl) rfl ?_
  unfold X3_isGreater
  refine r_aload_n dX3_isGreater_0 rfl ?_
  refine r_iload_n dX3_isGreater_1 rfl ?_
  refine c_I (inv_V (mi := mi_X3_isGreater) (b := 23) (rest := []) (X3_roundGot_ok_23 G x1 M) rfl (by decide) dX3_isGreater_2 lkm_X3_109 cal_X3_roundGot cX_23 rfl rfl (Nat.le_of_ble_eq_true rfl) rfl) ?_
  refine r_aload_n dX3_isGreater_5 rfl ?_
  refine r_iload_n dX3_isGreater_6 rfl ?_
  refine c_I (inv_V (mi := mi_X3_isGreater) (b := 23) (rest := [.int ((X3_roundGot 23 x1 M))]) (X3_roundGiven_ok_23 G x2 M) rfl (by decide) dX3_isGreater_7 lkm_X3_101 cal_X3_roundGiven cX_23 rfl rfl (Nat.le_of_ble_eq_true rfl) rfl) ?_
  refine r_imul dX3_isGreater_10 ?_
  refine r_aload_n dX3_isGreater_11 rfl ?_
  refine r_iload_n dX3_isGreater_12 rfl ?_
  refine c_I (inv_V (mi := mi_X3_isGreater) (b := 23) (rest := [.int ((X3_roundGot 23 x1 M) * (X3_roundGiven 23 x2 M))]) (X3_roundGot_ok_23 G x2 M) rfl (by decide) dX3_isGreater_13 lkm_X3_109 cal_X3_roundGot cX_23 rfl rfl (Nat.le_of_ble_eq_true rfl) rfl) ?_
  refine r_aload_n dX3_isGreater_16 rfl ?_
  refine r_iload_n dX3_isGreater_17 rfl ?_
  refine c_I (inv_V (mi := mi_X3_isGreater) (b := 23) (rest := [.int ((X3_roundGot 23 x2 M)), .int ((X3_roundGot 23 x1 M) * (X3_roundGiven 23 x2 M))]) (X3_roundGiven_ok_23 G x1 M) rfl (by decide) dX3_isGreater_18 lkm_X3_101 cal_X3_roundGiven cX_23 rfl rfl (Nat.le_of_ble_eq_true rfl) rfl) ?_
  refine r_imul dX3_isGreater_21 ?_
  refine r_icmp_le (tgt := 29) dX3_isGreater_22 rfl (fun h1 => ?_) (fun h1 => ?_)
  · refine r_iconst (x := 0) dX3_isGreater_29 rfl ?_
    exact r_iret (ty := .boolean) dX3_isGreater_30 rfl rfl rfl
  refine r_iconst (x := 1) dX3_isGreater_25 rfl ?_
  refine r_goto (tgt := 30) dX3_isGreater_26 rfl ?_
  exact r_iret (ty := .boolean) dX3_isGreater_30 rfl rfl rfl

theorem dX3_bestRound_0 : decode cX3_bestRound 0 = .ok (.iconst (-1), 1) := by decide +kernel
theorem dX3_bestRound_1 : decode cX3_bestRound 1 = .ok (.istore_n 1, 1) := by decide +kernel
theorem dX3_bestRound_2 : decode cX3_bestRound 2 = .ok (.iconst 0, 1) := by decide +kernel
theorem dX3_bestRound_3 : decode cX3_bestRound 3 = .ok (.istore_n 2, 1) := by decide +kernel
theorem dX3_bestRound_4 : decode cX3_bestRound 4 = .ok (.iload_n 2, 1) := by decide +kernel
theorem dX3_bestRound_5 : decode cX3_bestRound 5 = .ok (.iconst 5, 1) := by decide +kernel
theorem dX3_bestRound_6 : decode cX3_bestRound 6 = .ok (.if_icmp .ge 33, 3) := by decide +kernel
theorem dX3_bestRound_9 : decode cX3_bestRound 9 = .ok (.aload_n 0, 1) := by decide +kernel
theorem dX3_bestRound_10 : decode cX3_bestRound 10 = .ok (.iload_n 2, 1) := by decide +kernel
theorem dX3_bestRound_11 : decode cX3_bestRound 11 = .ok (.invokevirtual 101, 3) := by decide +kernel
theorem dX3_bestRound_14 : decode cX3_bestRound 14 = .ok (.ifCond .eq 19, 3) := by decide +kernel
theorem dX3_bestRound_17 : decode cX3_bestRound 17 = .ok (.iload_n 1, 1) := by decide +kernel
theorem dX3_bestRound_18 : decode cX3_bestRound 18 = .ok (.iconst (-1), 1) := by decide +kernel
theorem dX3_bestRound_19 : decode cX3_bestRound 19 = .ok (.if_icmp .eq 12, 3) := by decide +kernel
theorem dX3_bestRound_22 : decode cX3_bestRound 22 = .ok (.aload_n 0, 1) := by decide +kernel
theorem dX3_bestRound_23 : decode cX3_bestRound 23 = .ok (.iload_n 2, 1) := by decide +kernel
theorem dX3_bestRound_24 : decode cX3_bestRound 24 = .ok (.iload_n 1, 1) := by decide +kernel
theorem dX3_bestRound_25 : decode cX3_bestRound 25 = .ok (.invokevirtual 105, 3) := by decide +kernel
theorem dX3_bestRound_28 : decode cX3_bestRound 28 = .ok (.ifCond .eq 5, 3) := by decide +kernel
theorem dX3_bestRound_31 : decode cX3_bestRound 31 = .ok (.iload_n 2, 1) := by decide +kernel
theorem dX3_bestRound_32 : decode cX3_bestRound 32 = .ok (.istore_n 1, 1) := by decide +kernel
theorem dX3_bestRound_33 : decode cX3_bestRound 33 = .ok (.iinc 2 1, 3) := by decide +kernel
theorem dX3_bestRound_36 : decode cX3_bestRound 36 = .ok (.goto (-32), 3) := by decide +kernel
theorem dX3_bestRound_39 : decode cX3_bestRound 39 = .ok (.iload_n 1, 1) := by decide +kernel
theorem dX3_bestRound_40 : decode cX3_bestRound 40 = .ok (.ireturn, 1) := by decide +kernel
abbrev mi_X3_bestRound : MI := (zTX, RX3, yX3_bestRound, cX3_bestRound, 3, (some .int), 6)
theorem cal_X3_bestRound : zCalV mi_X3_bestRound 0 := ⟨⟨zTB_i5 180 (by decide +kernel), zTB_i5 178 (by decide +kernel), zTB_i5 179 (by decide +kernel), zTB_i1 4 (by decide +kernel)⟩, ⟨by decide, by decide, by decide +kernel⟩, by decide⟩
noncomputable def X3_bestRound_L1 (o0 : Nat) (M : Mem) : Nat → Int32 → Int32 → Option (Int32)
  | 0, _, _ => none
  | n + 1, c1, c2 =>
    if 5 ≤ c2 then
      some c1
    else
    l1_ (α := Int32) (
      l1_ (α := Bool) (
        if (X3_roundGiven o0 c2 M) = 0 then
          false
        else
        if c1 = (-1) then
          true
        else
        if (X3_isGreater o0 c2 c1 M) = true then
          true
        else
        false) fun t5 =>
      if t5 = true then
        c2
      else
      c1) fun y7 =>
    X3_bestRound_L1 o0 M n y7 (c2 + 1)
noncomputable def X3_bestRound (o0 : Nat) (M : Mem) : Option (Int32) :=
  b1_ (α := Int32) (X3_bestRound_L1 o0 M zFU (-1) 0) fun e8 =>
  some e8
set_option maxRecDepth 100000 in
set_option maxHeartbeats 4000000 in
theorem X3_bestRound_L1_ok_4 (G : Gh) (M : Mem) {dn : Option (Int32) → Option (Option Value × Mem)} (hs : dn none = none) (hx : ∀ (e8 : Int32), Wr G mi_X3_bestRound dn 39 [none, some (.int e8), none] [] M (some e8)) : ∀ (n : Nat) (c1 : Int32) (c2 : Int32), Wr G mi_X3_bestRound dn 4 [some (.ref (G.2.2.2 (4))), some (.int c1), some (.int c2)] [] M (X3_bestRound_L1 4 M n c1 c2) := by
  intro n
  induction n with
  | zero => intro c1 c2; exact r_none (by exact hs)
  | succ n ih =>
    intro c1 c2
    rw [X3_bestRound_L1]
    refine r_iload_n dX3_bestRound_4 rfl ?_
    refine r_iconst (x := 5) dX3_bestRound_5 rfl ?_
    refine r_icmp_ge (tgt := 39) dX3_bestRound_6 rfl (fun h1 => ?_) (fun h1 => ?_)
    · exact r_lk (hx c1) (And.intro rfl True.intro)
    refine r_aload_n dX3_bestRound_9 rfl ?_
    refine r_iload_n dX3_bestRound_10 rfl ?_
    refine c_I (inv_V (mi := mi_X3_bestRound) (b := 4) (rest := []) (X3_roundGiven_ok_4 G c2 M) rfl (by decide) dX3_bestRound_11 lkm_X3_101 cal_X3_roundGiven cX_4 rfl rfl (Nat.le_of_ble_eq_true rfl) rfl) ?_
    refine r_jL1 (j := 33) (lvj := fun y7 => [some (.ref (G.2.2.2 (4))), some (.int y7), some (.int c2)]) (stj := fun y7 => []) (Mj := fun y7 => M) (fun y7 => ?_) (fun hj33 => ?_)
    · refine r_iinc (y := c2 + 1) (lv' := [some (.ref (G.2.2.2 (4))), some (.int y7), some (.int (c2 + 1))]) dX3_bestRound_33 rfl rfl (Nat.le_of_ble_eq_true rfl) rfl rfl ?_
      refine r_goto (tgt := 4) dX3_bestRound_36 rfl ?_
      exact r_lk (ih y7 (c2 + 1)) (And.intro rfl (And.intro rfl (And.intro rfl True.intro)))
    refine r_cL (jX := 31) (jY := 33) (lvX := [some (.ref (G.2.2.2 (4))), none, some (.int c2)]) (lvY := [some (.ref (G.2.2.2 (4))), some (.int c1), some (.int c2)]) (stX := []) (M1 := M) (fun h6 => ?_) (fun h6 => ?_) (fun hX31 hY33 => ?_)
    · refine r_eq (if_pos rfl) ?_
      refine r_iload_n dX3_bestRound_31 rfl ?_
      refine r_istore_n (lv' := [some (.ref (G.2.2.2 (4))), some (.int c2), some (.int c2)]) dX3_bestRound_32 (Nat.le_of_ble_eq_true rfl) rfl rfl ?_
      exact r_lk (hj33 c2) (And.intro rfl (And.intro rfl (And.intro rfl True.intro)))
    · refine r_eq (if_neg (by decide)) ?_
      exact r_lk (hj33 c1) (And.intro rfl (And.intro rfl (And.intro rfl True.intro)))
    refine r_if_eq (tgt := 33) dX3_bestRound_14 rfl (fun h2 => ?_) (fun h2 => ?_)
    · exact r_lk hY33 (And.intro rfl (And.intro rfl (And.intro rfl True.intro)))
    refine r_iload_n dX3_bestRound_17 rfl ?_
    refine r_iconst (x := (-1)) dX3_bestRound_18 rfl ?_
    refine r_icmp_eq (tgt := 31) dX3_bestRound_19 rfl (fun h3 => ?_) (fun h3 => ?_)
    · exact r_lk hX31 (And.intro rfl (And.intro rfl True.intro))
    refine r_aload_n dX3_bestRound_22 rfl ?_
    refine r_iload_n dX3_bestRound_23 rfl ?_
    refine r_iload_n dX3_bestRound_24 rfl ?_
    refine c_Z (inv_V (mi := mi_X3_bestRound) (b := 4) (rest := []) (X3_isGreater_ok_4 G c2 c1 M) rfl (by decide) dX3_bestRound_25 lkm_X3_105 cal_X3_isGreater cX_4 rfl rfl (Nat.le_of_ble_eq_true rfl) rfl) ?_
    refine r_ifz_eq (tgt := 33) dX3_bestRound_28 rfl (fun h4 => ?_) (fun h4 => ?_)
    · exact r_lk hX31 (And.intro rfl (And.intro rfl True.intro))
    exact r_lk hY33 (And.intro rfl (And.intro rfl (And.intro rfl True.intro)))
set_option maxRecDepth 100000 in
set_option maxHeartbeats 4000000 in
theorem X3_bestRound_ok_4 (G : Gh) (M : Mem) : Mt G mi_X3_bestRound [.ref (G.2.2.2 (4))] M ((dO (dI M)) (X3_bestRound 4 M)) := by
  refine Mt_of (lv := [some (.ref (G.2.2.2 (4)))]) (by decide) rfl (Nat.le_of_ble_eq_true rfl) rfl ?_
  refine r_le (lv' := [some (.ref (G.2.2.2 (4))), none, none]) (And.intro rfl True.intro) ?_
  unfold X3_bestRound
  refine r_iconst (x := (-1)) dX3_bestRound_0 rfl ?_
  refine r_istore_n (lv' := [some (.ref (G.2.2.2 (4))), some (.int ((-1))), none]) dX3_bestRound_1 (Nat.le_of_ble_eq_true rfl) rfl rfl ?_
  refine r_iconst (x := 0) dX3_bestRound_2 rfl ?_
  refine r_istore_n (lv' := [some (.ref (G.2.2.2 (4))), some (.int ((-1))), some (.int 0)]) dX3_bestRound_3 (Nat.le_of_ble_eq_true rfl) rfl rfl ?_
  refine r_jB1 (j := 39) (lvj := fun e8 => [none, some (.int e8), none]) (stj := fun e8 => []) (Mj := fun e8 => M) (fun e8 => ?_) (fun hj39 => ?_)
  · refine r_iload_n dX3_bestRound_39 rfl ?_
    exact r_iret (ty := .int) dX3_bestRound_40 rfl rfl rfl
  exact r_lk (X3_bestRound_L1_ok_4 G M rfl hj39 zFU (-1) 0) (And.intro rfl (And.intro rfl (And.intro rfl True.intro)))
set_option maxRecDepth 100000 in
set_option maxHeartbeats 4000000 in
theorem X3_bestRound_L1_ok_23 (G : Gh) (M : Mem) {dn : Option (Int32) → Option (Option Value × Mem)} (hs : dn none = none) (hx : ∀ (e8 : Int32), Wr G mi_X3_bestRound dn 39 [none, some (.int e8), none] [] M (some e8)) : ∀ (n : Nat) (c1 : Int32) (c2 : Int32), Wr G mi_X3_bestRound dn 4 [some (.ref (G.2.2.2 (23))), some (.int c1), some (.int c2)] [] M (X3_bestRound_L1 23 M n c1 c2) := by
  intro n
  induction n with
  | zero => intro c1 c2; exact r_none (by exact hs)
  | succ n ih =>
    intro c1 c2
    rw [X3_bestRound_L1]
    refine r_iload_n dX3_bestRound_4 rfl ?_
    refine r_iconst (x := 5) dX3_bestRound_5 rfl ?_
    refine r_icmp_ge (tgt := 39) dX3_bestRound_6 rfl (fun h1 => ?_) (fun h1 => ?_)
    · exact r_lk (hx c1) (And.intro rfl True.intro)
    refine r_aload_n dX3_bestRound_9 rfl ?_
    refine r_iload_n dX3_bestRound_10 rfl ?_
    refine c_I (inv_V (mi := mi_X3_bestRound) (b := 23) (rest := []) (X3_roundGiven_ok_23 G c2 M) rfl (by decide) dX3_bestRound_11 lkm_X3_101 cal_X3_roundGiven cX_23 rfl rfl (Nat.le_of_ble_eq_true rfl) rfl) ?_
    refine r_jL1 (j := 33) (lvj := fun y7 => [some (.ref (G.2.2.2 (23))), some (.int y7), some (.int c2)]) (stj := fun y7 => []) (Mj := fun y7 => M) (fun y7 => ?_) (fun hj33 => ?_)
    · refine r_iinc (y := c2 + 1) (lv' := [some (.ref (G.2.2.2 (23))), some (.int y7), some (.int (c2 + 1))]) dX3_bestRound_33 rfl rfl (Nat.le_of_ble_eq_true rfl) rfl rfl ?_
      refine r_goto (tgt := 4) dX3_bestRound_36 rfl ?_
      exact r_lk (ih y7 (c2 + 1)) (And.intro rfl (And.intro rfl (And.intro rfl True.intro)))
    refine r_cL (jX := 31) (jY := 33) (lvX := [some (.ref (G.2.2.2 (23))), none, some (.int c2)]) (lvY := [some (.ref (G.2.2.2 (23))), some (.int c1), some (.int c2)]) (stX := []) (M1 := M) (fun h6 => ?_) (fun h6 => ?_) (fun hX31 hY33 => ?_)
    · refine r_eq (if_pos rfl) ?_
      refine r_iload_n dX3_bestRound_31 rfl ?_
      refine r_istore_n (lv' := [some (.ref (G.2.2.2 (23))), some (.int c2), some (.int c2)]) dX3_bestRound_32 (Nat.le_of_ble_eq_true rfl) rfl rfl ?_
      exact r_lk (hj33 c2) (And.intro rfl (And.intro rfl (And.intro rfl True.intro)))
    · refine r_eq (if_neg (by decide)) ?_
      exact r_lk (hj33 c1) (And.intro rfl (And.intro rfl (And.intro rfl True.intro)))
    refine r_if_eq (tgt := 33) dX3_bestRound_14 rfl (fun h2 => ?_) (fun h2 => ?_)
    · exact r_lk hY33 (And.intro rfl (And.intro rfl (And.intro rfl True.intro)))
    refine r_iload_n dX3_bestRound_17 rfl ?_
    refine r_iconst (x := (-1)) dX3_bestRound_18 rfl ?_
    refine r_icmp_eq (tgt := 31) dX3_bestRound_19 rfl (fun h3 => ?_) (fun h3 => ?_)
    · exact r_lk hX31 (And.intro rfl (And.intro rfl True.intro))
    refine r_aload_n dX3_bestRound_22 rfl ?_
    refine r_iload_n dX3_bestRound_23 rfl ?_
    refine r_iload_n dX3_bestRound_24 rfl ?_
    refine c_Z (inv_V (mi := mi_X3_bestRound) (b := 23) (rest := []) (X3_isGreater_ok_23 G c2 c1 M) rfl (by decide) dX3_bestRound_25 lkm_X3_105 cal_X3_isGreater cX_23 rfl rfl (Nat.le_of_ble_eq_true rfl) rfl) ?_
    refine r_ifz_eq (tgt := 33) dX3_bestRound_28 rfl (fun h4 => ?_) (fun h4 => ?_)
    · exact r_lk hX31 (And.intro rfl (And.intro rfl True.intro))
    exact r_lk hY33 (And.intro rfl (And.intro rfl (And.intro rfl True.intro)))
set_option maxRecDepth 100000 in
set_option maxHeartbeats 4000000 in
theorem X3_bestRound_ok_23 (G : Gh) (M : Mem) : Mt G mi_X3_bestRound [.ref (G.2.2.2 (23))] M ((dO (dI M)) (X3_bestRound 23 M)) := by
  refine Mt_of (lv := [some (.ref (G.2.2.2 (23)))]) (by decide) rfl (Nat.le_of_ble_eq_true rfl) rfl ?_
  refine r_le (lv' := [some (.ref (G.2.2.2 (23))), none, none]) (And.intro rfl True.intro) ?_
  unfold X3_bestRound
  refine r_iconst (x := (-1)) dX3_bestRound_0 rfl ?_
  refine r_istore_n (lv' := [some (.ref (G.2.2.2 (23))), some (.int ((-1))), none]) dX3_bestRound_1 (Nat.le_of_ble_eq_true rfl) rfl rfl ?_
  refine r_iconst (x := 0) dX3_bestRound_2 rfl ?_
  refine r_istore_n (lv' := [some (.ref (G.2.2.2 (23))), some (.int ((-1))), some (.int 0)]) dX3_bestRound_3 (Nat.le_of_ble_eq_true rfl) rfl rfl ?_
  refine r_jB1 (j := 39) (lvj := fun e8 => [none, some (.int e8), none]) (stj := fun e8 => []) (Mj := fun e8 => M) (fun e8 => ?_) (fun hj39 => ?_)
  · refine r_iload_n dX3_bestRound_39 rfl ?_
    exact r_iret (ty := .int) dX3_bestRound_40 rfl rfl rfl
  exact r_lk (X3_bestRound_L1_ok_23 G M rfl hj39 zFU (-1) 0) (And.intro rfl (And.intro rfl (And.intro rfl True.intro)))

theorem dX11_commonDivisor_0 : decode cX11_commonDivisor 0 = .ok (.iload_n 0, 1) := by decide +kernel
theorem dX11_commonDivisor_1 : decode cX11_commonDivisor 1 = .ok (.iload_n 1, 1) := by decide +kernel
theorem dX11_commonDivisor_2 : decode cX11_commonDivisor 2 = .ok (.invokestatic 342, 3) := by decide +kernel
theorem dX11_commonDivisor_5 : decode cX11_commonDivisor 5 = .ok (.istore_n 2, 1) := by decide +kernel
theorem dX11_commonDivisor_6 : decode cX11_commonDivisor 6 = .ok (.iload_n 0, 1) := by decide +kernel
theorem dX11_commonDivisor_7 : decode cX11_commonDivisor 7 = .ok (.iload_n 1, 1) := by decide +kernel
theorem dX11_commonDivisor_8 : decode cX11_commonDivisor 8 = .ok (.invokestatic 247, 3) := by decide +kernel
theorem dX11_commonDivisor_11 : decode cX11_commonDivisor 11 = .ok (.istore_n 3, 1) := by decide +kernel
theorem dX11_commonDivisor_12 : decode cX11_commonDivisor 12 = .ok (.iconst 0, 1) := by decide +kernel
theorem dX11_commonDivisor_13 : decode cX11_commonDivisor 13 = .ok (.istore 4, 2) := by decide +kernel
theorem dX11_commonDivisor_15 : decode cX11_commonDivisor 15 = .ok (.iload 4, 2) := by decide +kernel
theorem dX11_commonDivisor_17 : decode cX11_commonDivisor 17 = .ok (.bipush 100, 2) := by decide +kernel
theorem dX11_commonDivisor_19 : decode cX11_commonDivisor 19 = .ok (.if_icmp .ge 23, 3) := by decide +kernel
theorem dX11_commonDivisor_22 : decode cX11_commonDivisor 22 = .ok (.iload_n 3, 1) := by decide +kernel
theorem dX11_commonDivisor_23 : decode cX11_commonDivisor 23 = .ok (.ifCond .le 19, 3) := by decide +kernel
theorem dX11_commonDivisor_26 : decode cX11_commonDivisor 26 = .ok (.iload_n 2, 1) := by decide +kernel
theorem dX11_commonDivisor_27 : decode cX11_commonDivisor 27 = .ok (.iload_n 3, 1) := by decide +kernel
theorem dX11_commonDivisor_28 : decode cX11_commonDivisor 28 = .ok (.irem, 1) := by decide +kernel
theorem dX11_commonDivisor_29 : decode cX11_commonDivisor 29 = .ok (.istore 5, 2) := by decide +kernel
theorem dX11_commonDivisor_31 : decode cX11_commonDivisor 31 = .ok (.iload_n 3, 1) := by decide +kernel
theorem dX11_commonDivisor_32 : decode cX11_commonDivisor 32 = .ok (.istore_n 2, 1) := by decide +kernel
theorem dX11_commonDivisor_33 : decode cX11_commonDivisor 33 = .ok (.iload 5, 2) := by decide +kernel
theorem dX11_commonDivisor_35 : decode cX11_commonDivisor 35 = .ok (.istore_n 3, 1) := by decide +kernel
theorem dX11_commonDivisor_36 : decode cX11_commonDivisor 36 = .ok (.iinc 4 1, 3) := by decide +kernel
theorem dX11_commonDivisor_39 : decode cX11_commonDivisor 39 = .ok (.goto (-24), 3) := by decide +kernel
theorem dX11_commonDivisor_42 : decode cX11_commonDivisor 42 = .ok (.iload_n 2, 1) := by decide +kernel
theorem dX11_commonDivisor_43 : decode cX11_commonDivisor 43 = .ok (.iconst 1, 1) := by decide +kernel
theorem dX11_commonDivisor_44 : decode cX11_commonDivisor 44 = .ok (.invokestatic 342, 3) := by decide +kernel
theorem dX11_commonDivisor_47 : decode cX11_commonDivisor 47 = .ok (.ireturn, 1) := by decide +kernel
abbrev mi_X11_commonDivisor : MI := (zTX, RX11, yX11_commonDivisor, cX11_commonDivisor, 6, (some .int), 8)
theorem cal_X11_commonDivisor : zCalS mi_X11_commonDivisor 2 := ⟨⟨zTB_i5 202 (by decide +kernel), zTB_i5 201 (by decide +kernel), zTB_i1 1 (by decide +kernel)⟩, ⟨by decide, by decide, by decide +kernel⟩, by decide⟩
noncomputable def X11_commonDivisor_L1 : Nat → Int32 → Int32 → Int32 → Option (Int32)
  | 0, _, _, _ => none
  | n + 1, c2, c3, c4 =>
    if 100 ≤ c4 then
      some c2
    else
    if c3 ≤ 0 then
      some c2
    else
    gd_ (¬ c3 = 0) (
    X11_commonDivisor_L1 n c3 (c2 % c3) (c4 + 1))
noncomputable def X11_commonDivisor (x0 : Int32) (x1 : Int32) : Option (Int32) :=
  lt_ (α := Int32) ((if x0 < x1 then x1 else x0)) fun y1 =>
  lt_ (α := Int32) ((if x1 < x0 then x1 else x0)) fun y2 =>
  b1_ (α := Int32) (X11_commonDivisor_L1 zFU y1 y2 0) fun e6 =>
  some (if e6 < 1 then 1 else e6)
set_option maxRecDepth 100000 in
set_option maxHeartbeats 4000000 in
theorem X11_commonDivisor_L1_ok (G : Gh) (M : Mem) {dn : Option (Int32) → Option (Option Value × Mem)} (hs : dn none = none) (hx : ∀ (e6 : Int32), Wr G mi_X11_commonDivisor dn 42 [none, none, some (.int e6), none, none, none] [] M (some e6)) : ∀ (n : Nat) (c2 : Int32) (c3 : Int32) (c4 : Int32), Wr G mi_X11_commonDivisor dn 15 [none, none, some (.int c2), some (.int c3), some (.int c4), none] [] M (X11_commonDivisor_L1 n c2 c3 c4) := by
  intro n
  induction n with
  | zero => intro c2 c3 c4; exact r_none (by exact hs)
  | succ n ih =>
    intro c2 c3 c4
    rw [X11_commonDivisor_L1]
    refine r_iload dX11_commonDivisor_15 rfl ?_
    refine r_bipush (x := 100) dX11_commonDivisor_17 rfl ?_
    refine r_icmp_ge (tgt := 42) dX11_commonDivisor_19 rfl (fun h3 => ?_) (fun h3 => ?_)
    · exact r_lk (hx c2) (And.intro rfl True.intro)
    refine r_iload_n dX11_commonDivisor_22 rfl ?_
    refine r_if_le (tgt := 42) dX11_commonDivisor_23 rfl (fun h4 => ?_) (fun h4 => ?_)
    · exact r_lk (hx c2) (And.intro rfl True.intro)
    refine r_iload_n dX11_commonDivisor_26 rfl ?_
    refine r_iload_n dX11_commonDivisor_27 rfl ?_
    refine r_gd (by exact hs) (fun g5 => ?_)
    refine r_irem dX11_commonDivisor_28 g5 ?_
    refine r_istore (lv' := [none, none, some (.int c2), some (.int c3), some (.int c4), some (.int (c2 % c3))]) dX11_commonDivisor_29 (Nat.le_of_ble_eq_true rfl) rfl rfl ?_
    refine r_iload_n dX11_commonDivisor_31 rfl ?_
    refine r_istore_n (lv' := [none, none, some (.int c3), some (.int c3), some (.int c4), some (.int (c2 % c3))]) dX11_commonDivisor_32 (Nat.le_of_ble_eq_true rfl) rfl rfl ?_
    refine r_iload dX11_commonDivisor_33 rfl ?_
    refine r_istore_n (lv' := [none, none, some (.int c3), some (.int (c2 % c3)), some (.int c4), some (.int (c2 % c3))]) dX11_commonDivisor_35 (Nat.le_of_ble_eq_true rfl) rfl rfl ?_
    refine r_iinc (y := c4 + 1) (lv' := [none, none, some (.int c3), some (.int (c2 % c3)), some (.int (c4 + 1)), some (.int (c2 % c3))]) dX11_commonDivisor_36 rfl rfl (Nat.le_of_ble_eq_true rfl) rfl rfl ?_
    refine r_goto (tgt := 15) dX11_commonDivisor_39 rfl ?_
    exact r_lk (ih c3 (c2 % c3) (c4 + 1)) (And.intro rfl (And.intro rfl (And.intro rfl True.intro)))
set_option maxRecDepth 100000 in
set_option maxHeartbeats 4000000 in
theorem X11_commonDivisor_ok (G : Gh) (x0 : Int32) (x1 : Int32) (M : Mem) : Mt G mi_X11_commonDivisor [.int x0, .int x1] M ((dO (dI M)) (X11_commonDivisor x0 x1)) := by
  refine Mt_of (lv := [some (.int x0), some (.int x1)]) (by decide) rfl (Nat.le_of_ble_eq_true rfl) rfl ?_
  refine r_le (lv' := [some (.int x0), some (.int x1), none, none, none, none]) (And.intro rfl (And.intro rfl True.intro)) ?_
  unfold X11_commonDivisor
  refine r_iload_n dX11_commonDivisor_0 rfl ?_
  refine r_iload_n dX11_commonDivisor_1 rfl ?_
  refine r_max dX11_commonDivisor_2 lkm_X11_342 tw_mmax1 tw_m2 tw_mmax3 (by decide) (Nat.le_of_ble_eq_true rfl) ?_
  refine r_letI (fun y1 => ?_)
  refine r_istore_n (lv' := [some (.int x0), some (.int x1), some (.int y1), none, none, none]) dX11_commonDivisor_5 (Nat.le_of_ble_eq_true rfl) rfl rfl ?_
  refine r_iload_n dX11_commonDivisor_6 rfl ?_
  refine r_iload_n dX11_commonDivisor_7 rfl ?_
  refine r_min dX11_commonDivisor_8 lkm_X11_247 tw_mmin1 tw_m2 tw_mmin3 (by decide) (Nat.le_of_ble_eq_true rfl) ?_
  refine r_letI (fun y2 => ?_)
  refine r_istore_n (lv' := [some (.int x0), some (.int x1), some (.int y1), some (.int y2), none, none]) dX11_commonDivisor_11 (Nat.le_of_ble_eq_true rfl) rfl rfl ?_
  refine r_iconst (x := 0) dX11_commonDivisor_12 rfl ?_
  refine r_istore (lv' := [some (.int x0), some (.int x1), some (.int y1), some (.int y2), some (.int 0), none]) dX11_commonDivisor_13 (Nat.le_of_ble_eq_true rfl) rfl rfl ?_
  refine r_jB1 (j := 42) (lvj := fun e6 => [none, none, some (.int e6), none, none, none]) (stj := fun e6 => []) (Mj := fun e6 => M) (fun e6 => ?_) (fun hj42 => ?_)
  · refine r_iload_n dX11_commonDivisor_42 rfl ?_
    refine r_iconst (x := 1) dX11_commonDivisor_43 rfl ?_
    refine r_max dX11_commonDivisor_44 lkm_X11_342 tw_mmax1 tw_m2 tw_mmax3 (by decide) (Nat.le_of_ble_eq_true rfl) ?_
    exact r_iret (ty := .int) dX11_commonDivisor_47 rfl rfl rfl
  exact r_lk (X11_commonDivisor_L1_ok G M rfl hj42 zFU y1 y2 0) (And.intro rfl (And.intro rfl (And.intro rfl True.intro)))

theorem dX3_roundKinds_0 : decode cX3_roundKinds 0 = .ok (.bipush 10, 2) := by decide +kernel
theorem dX3_roundKinds_2 : decode cX3_roundKinds 2 = .ok (.getstatic 115, 3) := by decide +kernel
theorem dX3_roundKinds_5 : decode cX3_roundKinds 5 = .ok (.iload_n 1, 1) := by decide +kernel
theorem dX3_roundKinds_6 : decode cX3_roundKinds 6 = .ok (.iconst 3, 1) := by decide +kernel
theorem dX3_roundKinds_7 : decode cX3_roundKinds 7 = .ok (.imul, 1) := by decide +kernel
theorem dX3_roundKinds_8 : decode cX3_roundKinds 8 = .ok (.invokestatic 94, 3) := by decide +kernel
theorem dX3_roundKinds_11 : decode cX3_roundKinds 11 = .ok (.imul, 1) := by decide +kernel
theorem dX3_roundKinds_12 : decode cX3_roundKinds 12 = .ok (.getstatic 115, 3) := by decide +kernel
theorem dX3_roundKinds_15 : decode cX3_roundKinds 15 = .ok (.iload_n 1, 1) := by decide +kernel
theorem dX3_roundKinds_16 : decode cX3_roundKinds 16 = .ok (.iconst 3, 1) := by decide +kernel
theorem dX3_roundKinds_17 : decode cX3_roundKinds 17 = .ok (.imul, 1) := by decide +kernel
theorem dX3_roundKinds_18 : decode cX3_roundKinds 18 = .ok (.iconst 1, 1) := by decide +kernel
theorem dX3_roundKinds_19 : decode cX3_roundKinds 19 = .ok (.iadd, 1) := by decide +kernel
theorem dX3_roundKinds_20 : decode cX3_roundKinds 20 = .ok (.invokestatic 94, 3) := by decide +kernel
theorem dX3_roundKinds_23 : decode cX3_roundKinds 23 = .ok (.iadd, 1) := by decide +kernel
theorem dX3_roundKinds_24 : decode cX3_roundKinds 24 = .ok (.istore_n 2, 1) := by decide +kernel
theorem dX3_roundKinds_25 : decode cX3_roundKinds 25 = .ok (.getstatic 115, 3) := by decide +kernel
theorem dX3_roundKinds_28 : decode cX3_roundKinds 28 = .ok (.iload_n 1, 1) := by decide +kernel
theorem dX3_roundKinds_29 : decode cX3_roundKinds 29 = .ok (.iconst 3, 1) := by decide +kernel
theorem dX3_roundKinds_30 : decode cX3_roundKinds 30 = .ok (.imul, 1) := by decide +kernel
theorem dX3_roundKinds_31 : decode cX3_roundKinds 31 = .ok (.iconst 2, 1) := by decide +kernel
theorem dX3_roundKinds_32 : decode cX3_roundKinds 32 = .ok (.iadd, 1) := by decide +kernel
theorem dX3_roundKinds_33 : decode cX3_roundKinds 33 = .ok (.invokestatic 94, 3) := by decide +kernel
theorem dX3_roundKinds_36 : decode cX3_roundKinds 36 = .ok (.istore_n 3, 1) := by decide +kernel
theorem dX3_roundKinds_37 : decode cX3_roundKinds 37 = .ok (.iload_n 3, 1) := by decide +kernel
theorem dX3_roundKinds_38 : decode cX3_roundKinds 38 = .ok (.iconst (-1), 1) := by decide +kernel
theorem dX3_roundKinds_39 : decode cX3_roundKinds 39 = .ok (.if_icmp .ne 7, 3) := by decide +kernel
theorem dX3_roundKinds_42 : decode cX3_roundKinds 42 = .ok (.iload_n 2, 1) := by decide +kernel
theorem dX3_roundKinds_43 : decode cX3_roundKinds 43 = .ok (.goto 9, 3) := by decide +kernel
theorem dX3_roundKinds_46 : decode cX3_roundKinds 46 = .ok (.bipush 10, 2) := by decide +kernel
theorem dX3_roundKinds_48 : decode cX3_roundKinds 48 = .ok (.iload_n 2, 1) := by decide +kernel
theorem dX3_roundKinds_49 : decode cX3_roundKinds 49 = .ok (.imul, 1) := by decide +kernel
theorem dX3_roundKinds_50 : decode cX3_roundKinds 50 = .ok (.iload_n 3, 1) := by decide +kernel
theorem dX3_roundKinds_51 : decode cX3_roundKinds 51 = .ok (.iadd, 1) := by decide +kernel
theorem dX3_roundKinds_52 : decode cX3_roundKinds 52 = .ok (.ireturn, 1) := by decide +kernel
abbrev mi_X3_roundKinds : MI := (zTX, RX3, yX3_roundKinds, cX3_roundKinds, 4, (some .int), 3)
theorem cal_X3_roundKinds : zCalV mi_X3_roundKinds 1 := ⟨⟨zTB_i5 207 (by decide +kernel), zTB_i5 205 (by decide +kernel), zTB_i5 206 (by decide +kernel), zTB_i1 4 (by decide +kernel)⟩, ⟨by decide, by decide, by decide +kernel⟩, by decide⟩
noncomputable def X3_roundKinds (o0 : Nat) (x1 : Int32) : Int32 :=
  lt_ (α := Int32) ((10 * (X11_cellR (x1 * 3))) + (X11_cellR ((x1 * 3) + 1))) fun y1 =>
  lt_ (α := Int32) ((X11_cellR ((x1 * 3) + 2))) fun y2 =>
  if y2 = (-1) then
    y1
  else
  (10 * y1) + y2
set_option maxRecDepth 100000 in
set_option maxHeartbeats 4000000 in
theorem X3_roundKinds_ok_4 (G : Gh) (x1 : Int32) (M : Mem) : Mt G mi_X3_roundKinds [.ref (G.2.2.2 (4)), .int x1] M ((dI M) (X3_roundKinds 4 x1)) := by
  refine Mt_of (lv := [some (.ref (G.2.2.2 (4))), some (.int x1)]) (by decide) rfl (Nat.le_of_ble_eq_true rfl) rfl ?_
  refine r_le (lv' := [some (.ref (G.2.2.2 (4))), some (.int x1), none, none]) (And.intro rfl (And.intro rfl True.intro)) ?_
  unfold X3_roundKinds
  refine r_bipush (x := 10) dX3_roundKinds_0 rfl ?_
  refine r_gets dX3_roundKinds_2 lkf_X3_115 ?_
  refine r_iload_n dX3_roundKinds_5 rfl ?_
  refine r_iconst (x := 3) dX3_roundKinds_6 rfl ?_
  refine r_imul dX3_roundKinds_7 ?_
  refine c_I (inv_SN (mi := mi_X3_roundKinds) (rest := [.int 10]) (X11_cellR_ok G (x1 * 3) M) rfl (by decide) dX3_roundKinds_8 lkm_X3_94 cal_X11_cell rfl (Nat.le_of_ble_eq_true rfl) rfl) ?_
  refine r_imul dX3_roundKinds_11 ?_
  refine r_gets dX3_roundKinds_12 lkf_X3_115 ?_
  refine r_iload_n dX3_roundKinds_15 rfl ?_
  refine r_iconst (x := 3) dX3_roundKinds_16 rfl ?_
  refine r_imul dX3_roundKinds_17 ?_
  refine r_iconst (x := 1) dX3_roundKinds_18 rfl ?_
  refine r_iadd dX3_roundKinds_19 ?_
  refine c_I (inv_SN (mi := mi_X3_roundKinds) (rest := [.int (10 * (X11_cellR (x1 * 3)))]) (X11_cellR_ok G ((x1 * 3) + 1) M) rfl (by decide) dX3_roundKinds_20 lkm_X3_94 cal_X11_cell rfl (Nat.le_of_ble_eq_true rfl) rfl) ?_
  refine r_iadd dX3_roundKinds_23 ?_
  refine r_letI (fun y1 => ?_)
  refine r_istore_n (lv' := [some (.ref (G.2.2.2 (4))), some (.int x1), some (.int y1), none]) dX3_roundKinds_24 (Nat.le_of_ble_eq_true rfl) rfl rfl ?_
  refine r_gets dX3_roundKinds_25 lkf_X3_115 ?_
  refine r_iload_n dX3_roundKinds_28 rfl ?_
  refine r_iconst (x := 3) dX3_roundKinds_29 rfl ?_
  refine r_imul dX3_roundKinds_30 ?_
  refine r_iconst (x := 2) dX3_roundKinds_31 rfl ?_
  refine r_iadd dX3_roundKinds_32 ?_
  refine c_I (inv_SN (mi := mi_X3_roundKinds) (rest := []) (X11_cellR_ok G ((x1 * 3) + 2) M) rfl (by decide) dX3_roundKinds_33 lkm_X3_94 cal_X11_cell rfl (Nat.le_of_ble_eq_true rfl) rfl) ?_
  refine r_letI (fun y2 => ?_)
  refine r_istore_n (lv' := [some (.ref (G.2.2.2 (4))), some (.int x1), some (.int y1), some (.int y2)]) dX3_roundKinds_36 (Nat.le_of_ble_eq_true rfl) rfl rfl ?_
  refine r_iload_n dX3_roundKinds_37 rfl ?_
  refine r_iconst (x := (-1)) dX3_roundKinds_38 rfl ?_
  refine r_icmp_ne (tgt := 46) dX3_roundKinds_39 rfl (fun h3 => ?_) (fun h3 => ?_)
  · refine r_iload_n dX3_roundKinds_42 rfl ?_
    refine r_goto (tgt := 52) dX3_roundKinds_43 rfl ?_
    exact r_iret (ty := .int) dX3_roundKinds_52 rfl rfl rfl
  refine r_bipush (x := 10) dX3_roundKinds_46 rfl ?_
  refine r_iload_n dX3_roundKinds_48 rfl ?_
  refine r_imul dX3_roundKinds_49 ?_
  refine r_iload_n dX3_roundKinds_50 rfl ?_
  refine r_iadd dX3_roundKinds_51 ?_
  exact r_iret (ty := .int) dX3_roundKinds_52 rfl rfl rfl
set_option maxRecDepth 100000 in
set_option maxHeartbeats 4000000 in
theorem X3_roundKinds_ok_23 (G : Gh) (x1 : Int32) (M : Mem) : Mt G mi_X3_roundKinds [.ref (G.2.2.2 (23)), .int x1] M ((dI M) (X3_roundKinds 23 x1)) := by
  refine Mt_of (lv := [some (.ref (G.2.2.2 (23))), some (.int x1)]) (by decide) rfl (Nat.le_of_ble_eq_true rfl) rfl ?_
  refine r_le (lv' := [some (.ref (G.2.2.2 (23))), some (.int x1), none, none]) (And.intro rfl (And.intro rfl True.intro)) ?_
  unfold X3_roundKinds
  refine r_bipush (x := 10) dX3_roundKinds_0 rfl ?_
  refine r_gets dX3_roundKinds_2 lkf_X3_115 ?_
  refine r_iload_n dX3_roundKinds_5 rfl ?_
  refine r_iconst (x := 3) dX3_roundKinds_6 rfl ?_
  refine r_imul dX3_roundKinds_7 ?_
  refine c_I (inv_SN (mi := mi_X3_roundKinds) (rest := [.int 10]) (X11_cellR_ok G (x1 * 3) M) rfl (by decide) dX3_roundKinds_8 lkm_X3_94 cal_X11_cell rfl (Nat.le_of_ble_eq_true rfl) rfl) ?_
  refine r_imul dX3_roundKinds_11 ?_
  refine r_gets dX3_roundKinds_12 lkf_X3_115 ?_
  refine r_iload_n dX3_roundKinds_15 rfl ?_
  refine r_iconst (x := 3) dX3_roundKinds_16 rfl ?_
  refine r_imul dX3_roundKinds_17 ?_
  refine r_iconst (x := 1) dX3_roundKinds_18 rfl ?_
  refine r_iadd dX3_roundKinds_19 ?_
  refine c_I (inv_SN (mi := mi_X3_roundKinds) (rest := [.int (10 * (X11_cellR (x1 * 3)))]) (X11_cellR_ok G ((x1 * 3) + 1) M) rfl (by decide) dX3_roundKinds_20 lkm_X3_94 cal_X11_cell rfl (Nat.le_of_ble_eq_true rfl) rfl) ?_
  refine r_iadd dX3_roundKinds_23 ?_
  refine r_letI (fun y1 => ?_)
  refine r_istore_n (lv' := [some (.ref (G.2.2.2 (23))), some (.int x1), some (.int y1), none]) dX3_roundKinds_24 (Nat.le_of_ble_eq_true rfl) rfl rfl ?_
  refine r_gets dX3_roundKinds_25 lkf_X3_115 ?_
  refine r_iload_n dX3_roundKinds_28 rfl ?_
  refine r_iconst (x := 3) dX3_roundKinds_29 rfl ?_
  refine r_imul dX3_roundKinds_30 ?_
  refine r_iconst (x := 2) dX3_roundKinds_31 rfl ?_
  refine r_iadd dX3_roundKinds_32 ?_
  refine c_I (inv_SN (mi := mi_X3_roundKinds) (rest := []) (X11_cellR_ok G ((x1 * 3) + 2) M) rfl (by decide) dX3_roundKinds_33 lkm_X3_94 cal_X11_cell rfl (Nat.le_of_ble_eq_true rfl) rfl) ?_
  refine r_letI (fun y2 => ?_)
  refine r_istore_n (lv' := [some (.ref (G.2.2.2 (23))), some (.int x1), some (.int y1), some (.int y2)]) dX3_roundKinds_36 (Nat.le_of_ble_eq_true rfl) rfl rfl ?_
  refine r_iload_n dX3_roundKinds_37 rfl ?_
  refine r_iconst (x := (-1)) dX3_roundKinds_38 rfl ?_
  refine r_icmp_ne (tgt := 46) dX3_roundKinds_39 rfl (fun h3 => ?_) (fun h3 => ?_)
  · refine r_iload_n dX3_roundKinds_42 rfl ?_
    refine r_goto (tgt := 52) dX3_roundKinds_43 rfl ?_
    exact r_iret (ty := .int) dX3_roundKinds_52 rfl rfl rfl
  refine r_bipush (x := 10) dX3_roundKinds_46 rfl ?_
  refine r_iload_n dX3_roundKinds_48 rfl ?_
  refine r_imul dX3_roundKinds_49 ?_
  refine r_iload_n dX3_roundKinds_50 rfl ?_
  refine r_iadd dX3_roundKinds_51 ?_
  exact r_iret (ty := .int) dX3_roundKinds_52 rfl rfl rfl

theorem dX11_gain_0 : decode cX11_gain 0 = .ok (.aload_n 0, 1) := by decide +kernel
theorem dX11_gain_1 : decode cX11_gain 1 = .ok (.getfield 28, 3) := by decide +kernel
theorem dX11_gain_4 : decode cX11_gain 4 = .ok (.invokevirtual 252, 3) := by decide +kernel
theorem dX11_gain_7 : decode cX11_gain 7 = .ok (.istore_n 2, 1) := by decide +kernel
theorem dX11_gain_8 : decode cX11_gain 8 = .ok (.iload_n 2, 1) := by decide +kernel
theorem dX11_gain_9 : decode cX11_gain 9 = .ok (.iconst (-1), 1) := by decide +kernel
theorem dX11_gain_10 : decode cX11_gain 10 = .ok (.if_icmp .ne 5, 3) := by decide +kernel
theorem dX11_gain_13 : decode cX11_gain 13 = .ok (.iconst (-1), 1) := by decide +kernel
theorem dX11_gain_14 : decode cX11_gain 14 = .ok (.ireturn, 1) := by decide +kernel
theorem dX11_gain_15 : decode cX11_gain 15 = .ok (.aload_n 0, 1) := by decide +kernel
theorem dX11_gain_16 : decode cX11_gain 16 = .ok (.getfield 28, 3) := by decide +kernel
theorem dX11_gain_19 : decode cX11_gain 19 = .ok (.iload_n 2, 1) := by decide +kernel
theorem dX11_gain_20 : decode cX11_gain 20 = .ok (.invokevirtual 255, 3) := by decide +kernel
theorem dX11_gain_23 : decode cX11_gain 23 = .ok (.istore_n 3, 1) := by decide +kernel
theorem dX11_gain_24 : decode cX11_gain 24 = .ok (.aload_n 0, 1) := by decide +kernel
theorem dX11_gain_25 : decode cX11_gain 25 = .ok (.getfield 28, 3) := by decide +kernel
theorem dX11_gain_28 : decode cX11_gain 28 = .ok (.iload_n 2, 1) := by decide +kernel
theorem dX11_gain_29 : decode cX11_gain 29 = .ok (.invokevirtual 258, 3) := by decide +kernel
theorem dX11_gain_32 : decode cX11_gain 32 = .ok (.istore 4, 2) := by decide +kernel
theorem dX11_gain_34 : decode cX11_gain 34 = .ok (.iload_n 3, 1) := by decide +kernel
theorem dX11_gain_35 : decode cX11_gain 35 = .ok (.iload 4, 2) := by decide +kernel
theorem dX11_gain_37 : decode cX11_gain 37 = .ok (.invokestatic 261, 3) := by decide +kernel
theorem dX11_gain_40 : decode cX11_gain 40 = .ok (.istore 5, 2) := by decide +kernel
theorem dX11_gain_42 : decode cX11_gain 42 = .ok (.iload_n 1, 1) := by decide +kernel
theorem dX11_gain_43 : decode cX11_gain 43 = .ok (.tableswitch 45 0 2 #[25, 30, 36], 25) := by decide +kernel
theorem dX11_gain_68 : decode cX11_gain 68 = .ok (.iload_n 3, 1) := by decide +kernel
theorem dX11_gain_69 : decode cX11_gain 69 = .ok (.iload 5, 2) := by decide +kernel
theorem dX11_gain_71 : decode cX11_gain 71 = .ok (.idiv, 1) := by decide +kernel
theorem dX11_gain_72 : decode cX11_gain 72 = .ok (.ireturn, 1) := by decide +kernel
theorem dX11_gain_73 : decode cX11_gain 73 = .ok (.iload 4, 2) := by decide +kernel
theorem dX11_gain_75 : decode cX11_gain 75 = .ok (.iload 5, 2) := by decide +kernel
theorem dX11_gain_77 : decode cX11_gain 77 = .ok (.idiv, 1) := by decide +kernel
theorem dX11_gain_78 : decode cX11_gain 78 = .ok (.ireturn, 1) := by decide +kernel
theorem dX11_gain_79 : decode cX11_gain 79 = .ok (.aload_n 0, 1) := by decide +kernel
theorem dX11_gain_80 : decode cX11_gain 80 = .ok (.getfield 28, 3) := by decide +kernel
theorem dX11_gain_83 : decode cX11_gain 83 = .ok (.iload_n 2, 1) := by decide +kernel
theorem dX11_gain_84 : decode cX11_gain 84 = .ok (.invokevirtual 264, 3) := by decide +kernel
theorem dX11_gain_87 : decode cX11_gain 87 = .ok (.ireturn, 1) := by decide +kernel
theorem dX11_gain_88 : decode cX11_gain 88 = .ok (.iconst (-1), 1) := by decide +kernel
theorem dX11_gain_89 : decode cX11_gain 89 = .ok (.ireturn, 1) := by decide +kernel
abbrev mi_X11_gain : MI := (zTX, RX11, yX11_gain, cX11_gain, 6, (some .int), 9)
theorem cal_X11_gain : zCalV mi_X11_gain 1 := ⟨⟨zTB_i5 176 (by decide +kernel), zTB_i5 174 (by decide +kernel), zTB_i5 175 (by decide +kernel), zTB_i1 1 (by decide +kernel)⟩, ⟨by decide, by decide, by decide +kernel⟩, by decide⟩
noncomputable def X11_gain (x1 : Int32) (M : Mem) : Option (Int32) :=
  bo_ (X3_bestRound 23 M) fun v1 =>
  if v1 = (-1) then
    some (-1)
  else
  lt_ (α := Int32) ((X3_roundGot 23 v1 M)) fun y3 =>
  lt_ (α := Int32) ((X3_roundGiven 23 v1 M)) fun y4 =>
  bo_ (X11_commonDivisor y3 y4) fun v5 =>
  if x1 = 0 then
    gd_ (¬ v5 = 0) (
    some (y3 / v5))
  else
  if x1 = 1 then
    gd_ (¬ v5 = 0) (
    some (y4 / v5))
  else
  if x1 = 2 then
    some (X3_roundKinds 23 v1)
  else
  some (-1)
set_option maxRecDepth 100000 in
set_option maxHeartbeats 4000000 in
theorem X11_gain_ok (G : Gh) (x1 : Int32) (M : Mem) : Mt G mi_X11_gain [.ref (G.2.2.2 (0)), .int x1] M ((dO (dI M)) (X11_gain x1 M)) := by
  refine Mt_of (lv := [some (.ref (G.2.2.2 (0))), some (.int x1)]) (by decide) rfl (Nat.le_of_ble_eq_true rfl) rfl ?_
  refine r_le (lv' := [some (.ref (G.2.2.2 (0))), some (.int x1), none, none, none, none]) (And.intro rfl (And.intro rfl True.intro)) ?_
  unfold X11_gain
  refine r_aload_n dX11_gain_0 rfl ?_
  refine r_getf (v := .ref (G.2.2.2 (23))) dX11_gain_1 fX_0_2 kX11 (by decide) lkf_X11_28 rfl ?_
  refine c_OI rfl (inv_V (mi := mi_X11_gain) (b := 23) (rest := []) (X3_bestRound_ok_23 G M) rfl (by decide) dX11_gain_4 lkm_X11_252 cal_X3_bestRound cX_23 rfl rfl (Nat.le_of_ble_eq_true rfl) rfl) (fun v1 => ?_)
  refine r_istore_n (lv' := [some (.ref (G.2.2.2 (0))), some (.int x1), some (.int v1), none, none, none]) dX11_gain_7 (Nat.le_of_ble_eq_true rfl) rfl rfl ?_
  refine r_iload_n dX11_gain_8 rfl ?_
  refine r_iconst (x := (-1)) dX11_gain_9 rfl ?_
  refine r_icmp_ne (tgt := 15) dX11_gain_10 rfl (fun h2 => ?_) (fun h2 => ?_)
  · refine r_iconst (x := (-1)) dX11_gain_13 rfl ?_
    exact r_iret (ty := .int) dX11_gain_14 rfl rfl rfl
  refine r_aload_n dX11_gain_15 rfl ?_
  refine r_getf (v := .ref (G.2.2.2 (23))) dX11_gain_16 fX_0_2 kX11 (by decide) lkf_X11_28 rfl ?_
  refine r_iload_n dX11_gain_19 rfl ?_
  refine c_I (inv_V (mi := mi_X11_gain) (b := 23) (rest := []) (X3_roundGot_ok_23 G v1 M) rfl (by decide) dX11_gain_20 lkm_X11_255 cal_X3_roundGot cX_23 rfl rfl (Nat.le_of_ble_eq_true rfl) rfl) ?_
  refine r_letI (fun y3 => ?_)
  refine r_istore_n (lv' := [some (.ref (G.2.2.2 (0))), some (.int x1), some (.int v1), some (.int y3), none, none]) dX11_gain_23 (Nat.le_of_ble_eq_true rfl) rfl rfl ?_
  refine r_aload_n dX11_gain_24 rfl ?_
  refine r_getf (v := .ref (G.2.2.2 (23))) dX11_gain_25 fX_0_2 kX11 (by decide) lkf_X11_28 rfl ?_
  refine r_iload_n dX11_gain_28 rfl ?_
  refine c_I (inv_V (mi := mi_X11_gain) (b := 23) (rest := []) (X3_roundGiven_ok_23 G v1 M) rfl (by decide) dX11_gain_29 lkm_X11_258 cal_X3_roundGiven cX_23 rfl rfl (Nat.le_of_ble_eq_true rfl) rfl) ?_
  refine r_letI (fun y4 => ?_)
  refine r_istore (lv' := [some (.ref (G.2.2.2 (0))), some (.int x1), some (.int v1), some (.int y3), some (.int y4), none]) dX11_gain_32 (Nat.le_of_ble_eq_true rfl) rfl rfl ?_
  refine r_iload_n dX11_gain_34 rfl ?_
  refine r_iload dX11_gain_35 rfl ?_
  refine c_OI rfl (inv_S (mi := mi_X11_gain) (rest := []) (X11_commonDivisor_ok G y3 y4 M) rfl (by decide) dX11_gain_37 lkm_X11_261 cal_X11_commonDivisor rfl (Nat.le_of_ble_eq_true rfl) rfl) (fun v5 => ?_)
  refine r_istore (lv' := [some (.ref (G.2.2.2 (0))), some (.int x1), some (.int v1), some (.int y3), some (.int y4), some (.int v5)]) dX11_gain_40 (Nat.le_of_ble_eq_true rfl) rfl rfl ?_
  refine r_iload_n dX11_gain_42 rfl ?_
  refine r_ite (fun h6 => ?_) (fun h6 => ?_)
  · refine r_tswIn (c := 0) (tgt := 68) dX11_gain_43 h6 (by decide) (by decide) rfl rfl ?_
    refine r_iload_n dX11_gain_68 rfl ?_
    refine r_iload dX11_gain_69 rfl ?_
    refine r_gd rfl (fun g7 => ?_)
    refine r_idiv dX11_gain_71 g7 ?_
    exact r_iret (ty := .int) dX11_gain_72 rfl rfl rfl
  refine r_ite (fun h8 => ?_) (fun h8 => ?_)
  · refine r_tswIn (c := 1) (tgt := 73) dX11_gain_43 h8 (by decide) (by decide) rfl rfl ?_
    refine r_iload dX11_gain_73 rfl ?_
    refine r_iload dX11_gain_75 rfl ?_
    refine r_gd rfl (fun g9 => ?_)
    refine r_idiv dX11_gain_77 g9 ?_
    exact r_iret (ty := .int) dX11_gain_78 rfl rfl rfl
  refine r_ite (fun h10 => ?_) (fun h10 => ?_)
  · refine r_tswIn (c := 2) (tgt := 79) dX11_gain_43 h10 (by decide) (by decide) rfl rfl ?_
    refine r_aload_n dX11_gain_79 rfl ?_
    refine r_getf (v := .ref (G.2.2.2 (23))) dX11_gain_80 fX_0_2 kX11 (by decide) lkf_X11_28 rfl ?_
    refine r_iload_n dX11_gain_83 rfl ?_
    refine c_I (inv_V (mi := mi_X11_gain) (b := 23) (rest := []) (X3_roundKinds_ok_23 G v1 M) rfl (by decide) dX11_gain_84 lkm_X11_264 cal_X3_roundKinds cX_23 rfl rfl (Nat.le_of_ble_eq_true rfl) rfl) ?_
    exact r_iret (ty := .int) dX11_gain_87 rfl rfl rfl
  refine r_tswD (cs := [0, 1, 2]) (tgt := 88) dX11_gain_43 (by decide) (fun c hc => by simp only [List.mem_cons, List.not_mem_nil, or_false] at hc; rcases hc with rfl | rfl | rfl <;> assumption) rfl ?_
  refine r_iconst (x := (-1)) dX11_gain_88 rfl ?_
  exact r_iret (ty := .int) dX11_gain_89 rfl rfl rfl

theorem dX7_numberAt_0 : decode cX7_numberAt 0 = .ok (.iload_n 1, 1) := by decide +kernel
theorem dX7_numberAt_1 : decode cX7_numberAt 1 = .ok (.ifCond .lt 22, 3) := by decide +kernel
theorem dX7_numberAt_4 : decode cX7_numberAt 4 = .ok (.iload_n 1, 1) := by decide +kernel
theorem dX7_numberAt_5 : decode cX7_numberAt 5 = .ok (.aload_n 0, 1) := by decide +kernel
theorem dX7_numberAt_6 : decode cX7_numberAt 6 = .ok (.getfield 15, 3) := by decide +kernel
theorem dX7_numberAt_9 : decode cX7_numberAt 9 = .ok (.if_icmp .ge 14, 3) := by decide +kernel
theorem dX7_numberAt_12 : decode cX7_numberAt 12 = .ok (.aload_n 0, 1) := by decide +kernel
theorem dX7_numberAt_13 : decode cX7_numberAt 13 = .ok (.getfield 9, 3) := by decide +kernel
theorem dX7_numberAt_16 : decode cX7_numberAt 16 = .ok (.iload_n 1, 1) := by decide +kernel
theorem dX7_numberAt_17 : decode cX7_numberAt 17 = .ok (.invokestatic 19, 3) := by decide +kernel
theorem dX7_numberAt_20 : decode cX7_numberAt 20 = .ok (.goto 4, 3) := by decide +kernel
theorem dX7_numberAt_23 : decode cX7_numberAt 23 = .ok (.iconst (-1), 1) := by decide +kernel
theorem dX7_numberAt_24 : decode cX7_numberAt 24 = .ok (.ireturn, 1) := by decide +kernel
abbrev mi_X7_numberAt : MI := (zTX, RX7, yX7_numberAt, cX7_numberAt, 2, (some .int), 3)
theorem cal_X7_numberAt : zCalV mi_X7_numberAt 1 := ⟨⟨zTB_i5 215 (by decide +kernel), zTB_i5 213 (by decide +kernel), zTB_i5 214 (by decide +kernel), zTB_i1 11 (by decide +kernel)⟩, ⟨by decide, by decide, by decide +kernel⟩, by decide⟩
noncomputable def X7_numberAt (x1 : Int32) (M : Mem) : Int32 :=
  if x1 < 0 then
    (-1)
  else
  if (M.1 51 1) ≤ x1 then
    (-1)
  else
  (X11_cell 52 x1 M)
set_option maxRecDepth 100000 in
set_option maxHeartbeats 4000000 in
theorem X7_numberAt_ok (G : Gh) (x1 : Int32) (M : Mem) : Mt G mi_X7_numberAt [.ref (G.2.2.2 (51)), .int x1] M ((dI M) (X7_numberAt x1 M)) := by
  refine Mt_of (lv := [some (.ref (G.2.2.2 (51))), some (.int x1)]) (by decide) rfl (Nat.le_of_ble_eq_true rfl) rfl ?_
  unfold X7_numberAt
  refine r_iload_n dX7_numberAt_0 rfl ?_
  refine r_if_lt (tgt := 23) dX7_numberAt_1 rfl (fun h1 => ?_) (fun h1 => ?_)
  · refine r_iconst (x := (-1)) dX7_numberAt_23 rfl ?_
    exact r_iret (ty := .int) dX7_numberAt_24 rfl rfl rfl
  refine r_iload_n dX7_numberAt_4 rfl ?_
  refine r_aload_n dX7_numberAt_5 rfl ?_
  refine r_getf (v := .int (M.1 51 1)) dX7_numberAt_6 fX_51_1 kX7 (by decide) lkf_X7_15 rfl ?_
  refine r_icmp_ge (tgt := 23) dX7_numberAt_9 rfl (fun h2 => ?_) (fun h2 => ?_)
  · refine r_iconst (x := (-1)) dX7_numberAt_23 rfl ?_
    exact r_iret (ty := .int) dX7_numberAt_24 rfl rfl rfl
  refine r_aload_n dX7_numberAt_12 rfl ?_
  refine r_getf (v := .ref (G.2.2.2 (52))) dX7_numberAt_13 fX_51_0 kX7 (by decide) lkf_X7_9 rfl ?_
  refine r_iload_n dX7_numberAt_16 rfl ?_
  refine c_I (inv_SN (mi := mi_X7_numberAt) (rest := []) (X11_cell_ok G aX_52p x1 M) rfl (by decide) dX7_numberAt_17 lkm_X7_19 cal_X11_cell rfl (Nat.le_of_ble_eq_true rfl) rfl) ?_
  refine r_goto (tgt := 24) dX7_numberAt_20 rfl ?_
  exact r_iret (ty := .int) dX7_numberAt_24 rfl rfl rfl

theorem dX11_lies_0 : decode cX11_lies 0 = .ok (.aload_n 0, 1) := by decide +kernel
theorem dX11_lies_1 : decode cX11_lies 1 = .ok (.getfield 62, 3) := by decide +kernel
theorem dX11_lies_4 : decode cX11_lies 4 = .ok (.iload_n 1, 1) := by decide +kernel
theorem dX11_lies_5 : decode cX11_lies 5 = .ok (.invokevirtual 267, 3) := by decide +kernel
theorem dX11_lies_8 : decode cX11_lies 8 = .ok (.ireturn, 1) := by decide +kernel
abbrev mi_X11_lies : MI := (zTX, RX11, yX11_lies, cX11_lies, 2, (some .int), 4)
theorem cal_X11_lies : zCalV mi_X11_lies 1 := ⟨⟨zTB_i5 211 (by decide +kernel), zTB_i5 209 (by decide +kernel), zTB_i5 210 (by decide +kernel), zTB_i1 1 (by decide +kernel)⟩, ⟨by decide, by decide, by decide +kernel⟩, by decide⟩
noncomputable def X11_lies (x1 : Int32) (M : Mem) : Int32 :=
  (X7_numberAt x1 M)
set_option maxRecDepth 100000 in
set_option maxHeartbeats 4000000 in
theorem X11_lies_ok (G : Gh) (x1 : Int32) (M : Mem) : Mt G mi_X11_lies [.ref (G.2.2.2 (0)), .int x1] M ((dI M) (X11_lies x1 M)) := by
  refine Mt_of (lv := [some (.ref (G.2.2.2 (0))), some (.int x1)]) (by decide) rfl (Nat.le_of_ble_eq_true rfl) rfl ?_
  unfold X11_lies
  refine r_aload_n dX11_lies_0 rfl ?_
  refine r_getf (v := .ref (G.2.2.2 (51))) dX11_lies_1 fX_0_6 kX11 (by decide) lkf_X11_62 rfl ?_
  refine r_iload_n dX11_lies_4 rfl ?_
  refine c_I (inv_V (mi := mi_X11_lies) (b := 51) (rest := []) (X7_numberAt_ok G x1 M) rfl (by decide) dX11_lies_5 lkm_X11_267 cal_X7_numberAt cX_51 rfl rfl (Nat.le_of_ble_eq_true rfl) rfl) ?_
  exact r_iret (ty := .int) dX11_lies_8 rfl rfl rfl

theorem dX3_readers_0 : decode cX3_readers 0 = .ok (.aload_n 0, 1) := by decide +kernel
theorem dX3_readers_1 : decode cX3_readers 1 = .ok (.getfield 47, 3) := by decide +kernel
theorem dX3_readers_4 : decode cX3_readers 4 = .ok (.aload_n 0, 1) := by decide +kernel
theorem dX3_readers_5 : decode cX3_readers 5 = .ok (.getfield 53, 3) := by decide +kernel
theorem dX3_readers_8 : decode cX3_readers 8 = .ok (.invokestatic 84, 3) := by decide +kernel
theorem dX3_readers_11 : decode cX3_readers 11 = .ok (.ireturn, 1) := by decide +kernel
abbrev mi_X3_readers : MI := (zTX, RX3, yX3_readers, cX3_readers, 1, (some .int), 8)
theorem cal_X3_readers : zCalV mi_X3_readers 0 := ⟨⟨zTB_i5 227 (by decide +kernel), zTB_i5 225 (by decide +kernel), zTB_i5 226 (by decide +kernel), zTB_i1 4 (by decide +kernel)⟩, ⟨by decide, by decide, by decide +kernel⟩, by decide⟩
noncomputable def X3_readers (o0 : Nat) (M : Mem) : Int32 :=
  (if (M.1 o0 2) < (M.1 o0 0) then (M.1 o0 2) else (M.1 o0 0))
set_option maxRecDepth 100000 in
set_option maxHeartbeats 4000000 in
theorem X3_readers_ok_4 (G : Gh) (M : Mem) : Mt G mi_X3_readers [.ref (G.2.2.2 (4))] M ((dI M) (X3_readers 4 M)) := by
  refine Mt_of (lv := [some (.ref (G.2.2.2 (4)))]) (by decide) rfl (Nat.le_of_ble_eq_true rfl) rfl ?_
  unfold X3_readers
  refine r_aload_n dX3_readers_0 rfl ?_
  refine r_getf (v := .int (M.1 4 0)) dX3_readers_1 fX_4_0 kX3 (by decide) lkf_X3_47 rfl ?_
  refine r_aload_n dX3_readers_4 rfl ?_
  refine r_getf (v := .int (M.1 4 2)) dX3_readers_5 fX_4_2 kX3 (by decide) lkf_X3_53 rfl ?_
  refine r_min dX3_readers_8 lkm_X3_84 tw_mmin1 tw_m2 tw_mmin3 (by decide) (Nat.le_of_ble_eq_true rfl) ?_
  exact r_iret (ty := .int) dX3_readers_11 rfl rfl rfl
set_option maxRecDepth 100000 in
set_option maxHeartbeats 4000000 in
theorem X3_readers_ok_23 (G : Gh) (M : Mem) : Mt G mi_X3_readers [.ref (G.2.2.2 (23))] M ((dI M) (X3_readers 23 M)) := by
  refine Mt_of (lv := [some (.ref (G.2.2.2 (23)))]) (by decide) rfl (Nat.le_of_ble_eq_true rfl) rfl ?_
  unfold X3_readers
  refine r_aload_n dX3_readers_0 rfl ?_
  refine r_getf (v := .int (M.1 23 0)) dX3_readers_1 fX_23_0 kX3 (by decide) lkf_X3_47 rfl ?_
  refine r_aload_n dX3_readers_4 rfl ?_
  refine r_getf (v := .int (M.1 23 2)) dX3_readers_5 fX_23_2 kX3 (by decide) lkf_X3_53 rfl ?_
  refine r_min dX3_readers_8 lkm_X3_84 tw_mmin1 tw_m2 tw_mmin3 (by decide) (Nat.le_of_ble_eq_true rfl) ?_
  exact r_iret (ty := .int) dX3_readers_11 rfl rfl rfl

theorem dX3_hasReader_0 : decode cX3_hasReader 0 = .ok (.iload_n 1, 1) := by decide +kernel
theorem dX3_hasReader_1 : decode cX3_hasReader 1 = .ok (.ifCond .lt 15, 3) := by decide +kernel
theorem dX3_hasReader_4 : decode cX3_hasReader 4 = .ok (.iload_n 1, 1) := by decide +kernel
theorem dX3_hasReader_5 : decode cX3_hasReader 5 = .ok (.aload_n 0, 1) := by decide +kernel
theorem dX3_hasReader_6 : decode cX3_hasReader 6 = .ok (.invokevirtual 90, 3) := by decide +kernel
theorem dX3_hasReader_9 : decode cX3_hasReader 9 = .ok (.if_icmp .ge 7, 3) := by decide +kernel
theorem dX3_hasReader_12 : decode cX3_hasReader 12 = .ok (.iconst 1, 1) := by decide +kernel
theorem dX3_hasReader_13 : decode cX3_hasReader 13 = .ok (.goto 4, 3) := by decide +kernel
theorem dX3_hasReader_16 : decode cX3_hasReader 16 = .ok (.iconst 0, 1) := by decide +kernel
theorem dX3_hasReader_17 : decode cX3_hasReader 17 = .ok (.ireturn, 1) := by decide +kernel
abbrev mi_X3_hasReader : MI := (zTX, RX3, yX3_hasReader, cX3_hasReader, 2, (some .boolean), 9)
theorem cal_X3_hasReader : zCalV mi_X3_hasReader 1 := ⟨⟨zTB_i5 223 (by decide +kernel), zTB_i5 221 (by decide +kernel), zTB_i5 222 (by decide +kernel), zTB_i1 4 (by decide +kernel)⟩, ⟨by decide, by decide, by decide +kernel⟩, by decide⟩
noncomputable def X3_hasReader (o0 : Nat) (x1 : Int32) (M : Mem) : Bool :=
  if x1 < 0 then
    false
  else
  if (X3_readers o0 M) ≤ x1 then
    false
  else
  true
set_option maxRecDepth 100000 in
set_option maxHeartbeats 4000000 in
theorem X3_hasReader_ok_4 (G : Gh) (x1 : Int32) (M : Mem) : Mt G mi_X3_hasReader [.ref (G.2.2.2 (4)), .int x1] M ((dZ M) (X3_hasReader 4 x1 M)) := by
  refine Mt_of (lv := [some (.ref (G.2.2.2 (4))), some (.int x1)]) (by decide) rfl (Nat.le_of_ble_eq_true rfl) rfl ?_
  unfold X3_hasReader
  refine r_iload_n dX3_hasReader_0 rfl ?_
  refine r_if_lt (tgt := 16) dX3_hasReader_1 rfl (fun h1 => ?_) (fun h1 => ?_)
  · refine r_iconst (x := 0) dX3_hasReader_16 rfl ?_
    exact r_iret (ty := .boolean) dX3_hasReader_17 rfl rfl rfl
  refine r_iload_n dX3_hasReader_4 rfl ?_
  refine r_aload_n dX3_hasReader_5 rfl ?_
  refine c_I (inv_V (mi := mi_X3_hasReader) (b := 4) (rest := [.int x1]) (X3_readers_ok_4 G M) rfl (by decide) dX3_hasReader_6 lkm_X3_90 cal_X3_readers cX_4 rfl rfl (Nat.le_of_ble_eq_true rfl) rfl) ?_
  refine r_icmp_ge (tgt := 16) dX3_hasReader_9 rfl (fun h2 => ?_) (fun h2 => ?_)
  · refine r_iconst (x := 0) dX3_hasReader_16 rfl ?_
    exact r_iret (ty := .boolean) dX3_hasReader_17 rfl rfl rfl
  refine r_iconst (x := 1) dX3_hasReader_12 rfl ?_
  refine r_goto (tgt := 17) dX3_hasReader_13 rfl ?_
  exact r_iret (ty := .boolean) dX3_hasReader_17 rfl rfl rfl
set_option maxRecDepth 100000 in
set_option maxHeartbeats 4000000 in
theorem X3_hasReader_ok_23 (G : Gh) (x1 : Int32) (M : Mem) : Mt G mi_X3_hasReader [.ref (G.2.2.2 (23)), .int x1] M ((dZ M) (X3_hasReader 23 x1 M)) := by
  refine Mt_of (lv := [some (.ref (G.2.2.2 (23))), some (.int x1)]) (by decide) rfl (Nat.le_of_ble_eq_true rfl) rfl ?_
  unfold X3_hasReader
  refine r_iload_n dX3_hasReader_0 rfl ?_
  refine r_if_lt (tgt := 16) dX3_hasReader_1 rfl (fun h1 => ?_) (fun h1 => ?_)
  · refine r_iconst (x := 0) dX3_hasReader_16 rfl ?_
    exact r_iret (ty := .boolean) dX3_hasReader_17 rfl rfl rfl
  refine r_iload_n dX3_hasReader_4 rfl ?_
  refine r_aload_n dX3_hasReader_5 rfl ?_
  refine c_I (inv_V (mi := mi_X3_hasReader) (b := 23) (rest := [.int x1]) (X3_readers_ok_23 G M) rfl (by decide) dX3_hasReader_6 lkm_X3_90 cal_X3_readers cX_23 rfl rfl (Nat.le_of_ble_eq_true rfl) rfl) ?_
  refine r_icmp_ge (tgt := 16) dX3_hasReader_9 rfl (fun h2 => ?_) (fun h2 => ?_)
  · refine r_iconst (x := 0) dX3_hasReader_16 rfl ?_
    exact r_iret (ty := .boolean) dX3_hasReader_17 rfl rfl rfl
  refine r_iconst (x := 1) dX3_hasReader_12 rfl ?_
  refine r_goto (tgt := 17) dX3_hasReader_13 rfl ?_
  exact r_iret (ty := .boolean) dX3_hasReader_17 rfl rfl rfl

theorem dX8_tell_0 : decode cX8_tell 0 = .ok (.aload_n 0, 1) := by decide +kernel
theorem dX8_tell_1 : decode cX8_tell 1 = .ok (.getfield 43, 3) := by decide +kernel
theorem dX8_tell_4 : decode cX8_tell 4 = .ok (.bipush 30, 2) := by decide +kernel
theorem dX8_tell_6 : decode cX8_tell 6 = .ok (.if_icmp .lt 5, 3) := by decide +kernel
theorem dX8_tell_9 : decode cX8_tell 9 = .ok (.iconst (-1), 1) := by decide +kernel
theorem dX8_tell_10 : decode cX8_tell 10 = .ok (.ireturn, 1) := by decide +kernel
theorem dX8_tell_11 : decode cX8_tell 11 = .ok (.aload_n 0, 1) := by decide +kernel
theorem dX8_tell_12 : decode cX8_tell 12 = .ok (.getfield 11, 3) := by decide +kernel
theorem dX8_tell_15 : decode cX8_tell 15 = .ok (.aload_n 0, 1) := by decide +kernel
theorem dX8_tell_16 : decode cX8_tell 16 = .ok (.getfield 43, 3) := by decide +kernel
theorem dX8_tell_19 : decode cX8_tell 19 = .ok (.iload_n 1, 1) := by decide +kernel
theorem dX8_tell_20 : decode cX8_tell 20 = .ok (.invokestatic 47, 3) := by decide +kernel
theorem dX8_tell_23 : decode cX8_tell 23 = .ok (.aload_n 0, 1) := by decide +kernel
theorem dX8_tell_24 : decode cX8_tell 24 = .ok (.getfield 15, 3) := by decide +kernel
theorem dX8_tell_27 : decode cX8_tell 27 = .ok (.aload_n 0, 1) := by decide +kernel
theorem dX8_tell_28 : decode cX8_tell 28 = .ok (.getfield 43, 3) := by decide +kernel
theorem dX8_tell_31 : decode cX8_tell 31 = .ok (.iload_n 2, 1) := by decide +kernel
theorem dX8_tell_32 : decode cX8_tell 32 = .ok (.invokestatic 47, 3) := by decide +kernel
theorem dX8_tell_35 : decode cX8_tell 35 = .ok (.aload_n 0, 1) := by decide +kernel
theorem dX8_tell_36 : decode cX8_tell 36 = .ok (.getfield 18, 3) := by decide +kernel
theorem dX8_tell_39 : decode cX8_tell 39 = .ok (.aload_n 0, 1) := by decide +kernel
theorem dX8_tell_40 : decode cX8_tell 40 = .ok (.getfield 43, 3) := by decide +kernel
theorem dX8_tell_43 : decode cX8_tell 43 = .ok (.iload_n 3, 1) := by decide +kernel
theorem dX8_tell_44 : decode cX8_tell 44 = .ok (.invokestatic 47, 3) := by decide +kernel
theorem dX8_tell_47 : decode cX8_tell 47 = .ok (.aload_n 0, 1) := by decide +kernel
theorem dX8_tell_48 : decode cX8_tell 48 = .ok (.getfield 21, 3) := by decide +kernel
theorem dX8_tell_51 : decode cX8_tell 51 = .ok (.aload_n 0, 1) := by decide +kernel
theorem dX8_tell_52 : decode cX8_tell 52 = .ok (.getfield 43, 3) := by decide +kernel
theorem dX8_tell_55 : decode cX8_tell 55 = .ok (.iload 4, 2) := by decide +kernel
theorem dX8_tell_57 : decode cX8_tell 57 = .ok (.ifCond .eq 7, 3) := by decide +kernel
theorem dX8_tell_60 : decode cX8_tell 60 = .ok (.iconst 1, 1) := by decide +kernel
theorem dX8_tell_61 : decode cX8_tell 61 = .ok (.goto 4, 3) := by decide +kernel
theorem dX8_tell_64 : decode cX8_tell 64 = .ok (.iconst 0, 1) := by decide +kernel
theorem dX8_tell_65 : decode cX8_tell 65 = .ok (.invokestatic 47, 3) := by decide +kernel
theorem dX8_tell_68 : decode cX8_tell 68 = .ok (.aload_n 0, 1) := by decide +kernel
theorem dX8_tell_69 : decode cX8_tell 69 = .ok (.getfield 24, 3) := by decide +kernel
theorem dX8_tell_72 : decode cX8_tell 72 = .ok (.aload_n 0, 1) := by decide +kernel
theorem dX8_tell_73 : decode cX8_tell 73 = .ok (.getfield 43, 3) := by decide +kernel
theorem dX8_tell_76 : decode cX8_tell 76 = .ok (.aload_n 0, 1) := by decide +kernel
theorem dX8_tell_77 : decode cX8_tell 77 = .ok (.getfield 51, 3) := by decide +kernel
theorem dX8_tell_80 : decode cX8_tell 80 = .ok (.invokestatic 47, 3) := by decide +kernel
theorem dX8_tell_83 : decode cX8_tell 83 = .ok (.aload_n 0, 1) := by decide +kernel
theorem dX8_tell_84 : decode cX8_tell 84 = .ok (.getfield 27, 3) := by decide +kernel
theorem dX8_tell_87 : decode cX8_tell 87 = .ok (.aload_n 0, 1) := by decide +kernel
theorem dX8_tell_88 : decode cX8_tell 88 = .ok (.getfield 43, 3) := by decide +kernel
theorem dX8_tell_91 : decode cX8_tell 91 = .ok (.iconst (-1), 1) := by decide +kernel
theorem dX8_tell_92 : decode cX8_tell 92 = .ok (.invokestatic 47, 3) := by decide +kernel
theorem dX8_tell_95 : decode cX8_tell 95 = .ok (.aload_n 0, 1) := by decide +kernel
theorem dX8_tell_96 : decode cX8_tell 96 = .ok (.dup, 1) := by decide +kernel
theorem dX8_tell_97 : decode cX8_tell 97 = .ok (.getfield 43, 3) := by decide +kernel
theorem dX8_tell_100 : decode cX8_tell 100 = .ok (.iconst 1, 1) := by decide +kernel
theorem dX8_tell_101 : decode cX8_tell 101 = .ok (.iadd, 1) := by decide +kernel
theorem dX8_tell_102 : decode cX8_tell 102 = .ok (.putfield 43, 3) := by decide +kernel
theorem dX8_tell_105 : decode cX8_tell 105 = .ok (.aload_n 0, 1) := by decide +kernel
theorem dX8_tell_106 : decode cX8_tell 106 = .ok (.getfield 43, 3) := by decide +kernel
theorem dX8_tell_109 : decode cX8_tell 109 = .ok (.iconst 1, 1) := by decide +kernel
theorem dX8_tell_110 : decode cX8_tell 110 = .ok (.isub, 1) := by decide +kernel
theorem dX8_tell_111 : decode cX8_tell 111 = .ok (.ireturn, 1) := by decide +kernel
abbrev mi_X8_tell : MI := (zTX, RX8, yX8_tell, cX8_tell, 5, (some .int), 3)
theorem cal_X8_tell : zCalV mi_X8_tell 4 := ⟨⟨zTB_i5 231 (by decide +kernel), zTB_i5 229 (by decide +kernel), zTB_i5 230 (by decide +kernel), zTB_i1 12 (by decide +kernel)⟩, ⟨by decide, by decide, by decide +kernel⟩, by decide⟩
noncomputable def X8_tell (x1 : Int32) (x2 : Int32) (x3 : Int32) (x4 : Int32) (M : Mem) : Int32 × Mem :=
  if (M.1 53 7) < 30 then
    lt_ (X11_put 54 (M.1 53 7) x1 M) fun M2 =>
    lt_ (X11_put 55 (M2.1 53 7) x2 M2) fun M3 =>
    lt_ (X11_put 56 (M3.1 53 7) x3 M3) fun M4 =>
    l1_ (α := Int32) (
      if x4 = 0 then
        0
      else
      1) fun y6 =>
    lt_ (X11_put 57 (M4.1 53 7) y6 M4) fun M7 =>
    lt_ (X11_put 58 (M7.1 53 7) (M7.1 53 8) M7) fun M8 =>
    lt_ (X11_put 59 (M8.1 53 7) (-1) M8) fun M9 =>
    lt_ (uI M9 53 7 ((M9.1 53 7) + 1)) fun M10 =>
    ((M10.1 53 7) - 1, M10)
  else
  ((-1), M)
set_option maxRecDepth 100000 in
set_option maxHeartbeats 4000000 in
theorem X8_tell_ok (G : Gh) (x1 : Int32) (x2 : Int32) (x3 : Int32) (x4 : Int32) (M : Mem) : Mt G mi_X8_tell [.ref (G.2.2.2 (53)), .int x1, .int x2, .int x3, .int x4] M (dIM (X8_tell x1 x2 x3 x4 M)) := by
  refine Mt_of (lv := [some (.ref (G.2.2.2 (53))), some (.int x1), some (.int x2), some (.int x3), some (.int x4)]) (by decide) rfl (Nat.le_of_ble_eq_true rfl) rfl ?_
  unfold X8_tell
  refine r_aload_n dX8_tell_0 rfl ?_
  refine r_getf (v := .int (M.1 53 7)) dX8_tell_1 fX_53_7 kX8 (by decide) lkf_X8_43 rfl ?_
  refine r_bipush (x := 30) dX8_tell_4 rfl ?_
  refine r_icmp_lt (tgt := 11) dX8_tell_6 rfl (fun h1 => ?_) (fun h1 => ?_)
  · refine r_aload_n dX8_tell_11 rfl ?_
    refine r_getf (v := .ref (G.2.2.2 (54))) dX8_tell_12 fX_53_1 kX8 (by decide) lkf_X8_11 rfl ?_
    refine r_aload_n dX8_tell_15 rfl ?_
    refine r_getf (v := .int (M.1 53 7)) dX8_tell_16 fX_53_7 kX8 (by decide) lkf_X8_43 rfl ?_
    refine r_iload_n dX8_tell_19 rfl ?_
    refine c_V (inv_SN (mi := mi_X8_tell) (rest := []) (X11_put_ok G aX_54p (M.1 53 7) x1 M) rfl (by decide) dX8_tell_20 lkm_X8_47 cal_X11_put rfl (Nat.le_of_ble_eq_true rfl) rfl) (fun M2 => ?_)
    refine r_aload_n dX8_tell_23 rfl ?_
    refine r_getf (v := .ref (G.2.2.2 (55))) dX8_tell_24 fX_53_2 kX8 (by decide) lkf_X8_15 rfl ?_
    refine r_aload_n dX8_tell_27 rfl ?_
    refine r_getf (v := .int (M2.1 53 7)) dX8_tell_28 fX_53_7 kX8 (by decide) lkf_X8_43 rfl ?_
    refine r_iload_n dX8_tell_31 rfl ?_
    refine c_V (inv_SN (mi := mi_X8_tell) (rest := []) (X11_put_ok G aX_55p (M2.1 53 7) x2 M2) rfl (by decide) dX8_tell_32 lkm_X8_47 cal_X11_put rfl (Nat.le_of_ble_eq_true rfl) rfl) (fun M3 => ?_)
    refine r_aload_n dX8_tell_35 rfl ?_
    refine r_getf (v := .ref (G.2.2.2 (56))) dX8_tell_36 fX_53_3 kX8 (by decide) lkf_X8_18 rfl ?_
    refine r_aload_n dX8_tell_39 rfl ?_
    refine r_getf (v := .int (M3.1 53 7)) dX8_tell_40 fX_53_7 kX8 (by decide) lkf_X8_43 rfl ?_
    refine r_iload_n dX8_tell_43 rfl ?_
    refine c_V (inv_SN (mi := mi_X8_tell) (rest := []) (X11_put_ok G aX_56p (M3.1 53 7) x3 M3) rfl (by decide) dX8_tell_44 lkm_X8_47 cal_X11_put rfl (Nat.le_of_ble_eq_true rfl) rfl) (fun M4 => ?_)
    refine r_aload_n dX8_tell_47 rfl ?_
    refine r_getf (v := .ref (G.2.2.2 (57))) dX8_tell_48 fX_53_4 kX8 (by decide) lkf_X8_21 rfl ?_
    refine r_aload_n dX8_tell_51 rfl ?_
    refine r_getf (v := .int (M4.1 53 7)) dX8_tell_52 fX_53_7 kX8 (by decide) lkf_X8_43 rfl ?_
    refine r_iload dX8_tell_55 rfl ?_
    refine r_jL1 (j := 65) (lvj := fun y6 => [some (.ref (G.2.2.2 (53))), none, none, none, none]) (stj := fun y6 => [.int y6, .int (M4.1 53 7), .ref (G.2.2.2 (57))]) (Mj := fun y6 => M4) (fun y6 => ?_) (fun hj65 => ?_)
    · refine c_V (inv_SN (mi := mi_X8_tell) (rest := []) (X11_put_ok G aX_57p (M4.1 53 7) y6 M4) rfl (by decide) dX8_tell_65 lkm_X8_47 cal_X11_put rfl (Nat.le_of_ble_eq_true rfl) rfl) (fun M7 => ?_)
      refine r_aload_n dX8_tell_68 rfl ?_
      refine r_getf (v := .ref (G.2.2.2 (58))) dX8_tell_69 fX_53_5 kX8 (by decide) lkf_X8_24 rfl ?_
      refine r_aload_n dX8_tell_72 rfl ?_
      refine r_getf (v := .int (M7.1 53 7)) dX8_tell_73 fX_53_7 kX8 (by decide) lkf_X8_43 rfl ?_
      refine r_aload_n dX8_tell_76 rfl ?_
      refine r_getf (v := .int (M7.1 53 8)) dX8_tell_77 fX_53_8 kX8 (by decide) lkf_X8_51 rfl ?_
      refine c_V (inv_SN (mi := mi_X8_tell) (rest := []) (X11_put_ok G aX_58p (M7.1 53 7) (M7.1 53 8) M7) rfl (by decide) dX8_tell_80 lkm_X8_47 cal_X11_put rfl (Nat.le_of_ble_eq_true rfl) rfl) (fun M8 => ?_)
      refine r_aload_n dX8_tell_83 rfl ?_
      refine r_getf (v := .ref (G.2.2.2 (59))) dX8_tell_84 fX_53_6 kX8 (by decide) lkf_X8_27 rfl ?_
      refine r_aload_n dX8_tell_87 rfl ?_
      refine r_getf (v := .int (M8.1 53 7)) dX8_tell_88 fX_53_7 kX8 (by decide) lkf_X8_43 rfl ?_
      refine r_iconst (x := (-1)) dX8_tell_91 rfl ?_
      refine c_V (inv_SN (mi := mi_X8_tell) (rest := []) (X11_put_ok G aX_59p (M8.1 53 7) (-1) M8) rfl (by decide) dX8_tell_92 lkm_X8_47 cal_X11_put rfl (Nat.le_of_ble_eq_true rfl) rfl) (fun M9 => ?_)
      refine r_aload_n dX8_tell_95 rfl ?_
      refine r_dup dX8_tell_96 rfl ?_
      refine r_getf (v := .int (M9.1 53 7)) dX8_tell_97 fX_53_7 kX8 (by decide) lkf_X8_43 rfl ?_
      refine r_iconst (x := 1) dX8_tell_100 rfl ?_
      refine r_iadd dX8_tell_101 ?_
      refine r_putI dX8_tell_102 fX_53_7 kX8 (by decide) rfl rfl lkf_X8_43 (fun _ => rfl) rfl rfl (fun M10 => ?_)
      refine r_aload_n dX8_tell_105 rfl ?_
      refine r_getf (v := .int (M10.1 53 7)) dX8_tell_106 fX_53_7 kX8 (by decide) lkf_X8_43 rfl ?_
      refine r_iconst (x := 1) dX8_tell_109 rfl ?_
      refine r_isub dX8_tell_110 ?_
      exact r_iret (ty := .int) dX8_tell_111 rfl rfl rfl
    refine r_if_eq (tgt := 64) dX8_tell_57 rfl (fun h5 => ?_) (fun h5 => ?_)
    · refine r_iconst (x := 0) dX8_tell_64 rfl ?_
      exact r_lk (hj65 0) (And.intro rfl True.intro)
    refine r_iconst (x := 1) dX8_tell_60 rfl ?_
    refine r_goto (tgt := 65) dX8_tell_61 rfl ?_
    exact r_lk (hj65 1) (And.intro rfl True.intro)
  refine r_iconst (x := (-1)) dX8_tell_9 rfl ?_
  exact r_iret (ty := .int) dX8_tell_10 rfl rfl rfl

theorem dX11_least_0 : decode cX11_least 0 = .ok (.aload_n 0, 1) := by decide +kernel
theorem dX11_least_1 : decode cX11_least 1 = .ok (.getfield 28, 3) := by decide +kernel
theorem dX11_least_4 : decode cX11_least 4 = .ok (.iload_n 1, 1) := by decide +kernel
theorem dX11_least_5 : decode cX11_least 5 = .ok (.invokevirtual 270, 3) := by decide +kernel
theorem dX11_least_8 : decode cX11_least 8 = .ok (.ifCond .eq 13, 3) := by decide +kernel
theorem dX11_least_11 : decode cX11_least 11 = .ok (.iload_n 2, 1) := by decide +kernel
theorem dX11_least_12 : decode cX11_least 12 = .ok (.ifCond .lt 9, 3) := by decide +kernel
theorem dX11_least_15 : decode cX11_least 15 = .ok (.iload_n 2, 1) := by decide +kernel
theorem dX11_least_16 : decode cX11_least 16 = .ok (.bipush 99, 2) := by decide +kernel
theorem dX11_least_18 : decode cX11_least 18 = .ok (.if_icmp .le 5, 3) := by decide +kernel
theorem dX11_least_21 : decode cX11_least 21 = .ok (.iconst (-1), 1) := by decide +kernel
theorem dX11_least_22 : decode cX11_least 22 = .ok (.ireturn, 1) := by decide +kernel
theorem dX11_least_23 : decode cX11_least 23 = .ok (.aload_n 0, 1) := by decide +kernel
theorem dX11_least_24 : decode cX11_least 24 = .ok (.getfield 69, 3) := by decide +kernel
theorem dX11_least_27 : decode cX11_least 27 = .ok (.iload_n 1, 1) := by decide +kernel
theorem dX11_least_28 : decode cX11_least 28 = .ok (.iconst (-1), 1) := by decide +kernel
theorem dX11_least_29 : decode cX11_least 29 = .ok (.iload_n 2, 1) := by decide +kernel
theorem dX11_least_30 : decode cX11_least 30 = .ok (.iload_n 3, 1) := by decide +kernel
theorem dX11_least_31 : decode cX11_least 31 = .ok (.invokevirtual 273, 3) := by decide +kernel
theorem dX11_least_34 : decode cX11_least 34 = .ok (.ireturn, 1) := by decide +kernel
abbrev mi_X11_least : MI := (zTX, RX11, yX11_least, cX11_least, 4, (some .int), 10)
theorem cal_X11_least : zCalV mi_X11_least 3 := ⟨⟨zTB_i5 219 (by decide +kernel), zTB_i5 217 (by decide +kernel), zTB_i5 218 (by decide +kernel), zTB_i1 1 (by decide +kernel)⟩, ⟨by decide, by decide, by decide +kernel⟩, by decide⟩
noncomputable def X11_least (x1 : Int32) (x2 : Int32) (x3 : Int32) (M : Mem) : Int32 × Mem :=
  if (X3_hasReader 23 x1 M) = true then
    if x2 < 0 then
      ((-1), M)
    else
    if x2 ≤ 99 then
      lp_ (X8_tell x1 (-1) x2 x3 M) fun v4 M5 =>
      (v4, M5)
    else
    ((-1), M)
  else
  ((-1), M)
set_option maxRecDepth 100000 in
set_option maxHeartbeats 4000000 in
theorem X11_least_ok (G : Gh) (x1 : Int32) (x2 : Int32) (x3 : Int32) (M : Mem) : Mt G mi_X11_least [.ref (G.2.2.2 (0)), .int x1, .int x2, .int x3] M (dIM (X11_least x1 x2 x3 M)) := by
  refine Mt_of (lv := [some (.ref (G.2.2.2 (0))), some (.int x1), some (.int x2), some (.int x3)]) (by decide) rfl (Nat.le_of_ble_eq_true rfl) rfl ?_
  unfold X11_least
  refine r_aload_n dX11_least_0 rfl ?_
  refine r_getf (v := .ref (G.2.2.2 (23))) dX11_least_1 fX_0_2 kX11 (by decide) lkf_X11_28 rfl ?_
  refine r_iload_n dX11_least_4 rfl ?_
  refine c_Z (inv_V (mi := mi_X11_least) (b := 23) (rest := []) (X3_hasReader_ok_23 G x1 M) rfl (by decide) dX11_least_5 lkm_X11_270 cal_X3_hasReader cX_23 rfl rfl (Nat.le_of_ble_eq_true rfl) rfl) ?_
  refine r_ifz_eq (tgt := 21) dX11_least_8 rfl (fun h1 => ?_) (fun h1 => ?_)
  · refine r_iload_n dX11_least_11 rfl ?_
    refine r_if_lt (tgt := 21) dX11_least_12 rfl (fun h2 => ?_) (fun h2 => ?_)
    · refine r_iconst (x := (-1)) dX11_least_21 rfl ?_
      exact r_iret (ty := .int) dX11_least_22 rfl rfl rfl
    refine r_iload_n dX11_least_15 rfl ?_
    refine r_bipush (x := 99) dX11_least_16 rfl ?_
    refine r_icmp_le (tgt := 23) dX11_least_18 rfl (fun h3 => ?_) (fun h3 => ?_)
    · refine r_aload_n dX11_least_23 rfl ?_
      refine r_getf (v := .ref (G.2.2.2 (53))) dX11_least_24 fX_0_7 kX11 (by decide) lkf_X11_69 rfl ?_
      refine r_iload_n dX11_least_27 rfl ?_
      refine r_iconst (x := (-1)) dX11_least_28 rfl ?_
      refine r_iload_n dX11_least_29 rfl ?_
      refine r_iload_n dX11_least_30 rfl ?_
      refine c_IM (inv_V (mi := mi_X11_least) (b := 53) (rest := []) (X8_tell_ok G x1 (-1) x2 x3 M) rfl (by decide) dX11_least_31 lkm_X11_273 cal_X8_tell cX_53 rfl rfl (Nat.le_of_ble_eq_true rfl) rfl) (fun v4 M5 => ?_)
      exact r_iret (ty := .int) dX11_least_34 rfl rfl rfl
    refine r_iconst (x := (-1)) dX11_least_21 rfl ?_
    exact r_iret (ty := .int) dX11_least_22 rfl rfl rfl
  refine r_iconst (x := (-1)) dX11_least_21 rfl ?_
  exact r_iret (ty := .int) dX11_least_22 rfl rfl rfl

