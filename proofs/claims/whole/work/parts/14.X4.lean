theorem dX5_clearRow_0 : decode cX5_clearRow 0 = .ok (.iconst 0, 1) := by decide +kernel
theorem dX5_clearRow_1 : decode cX5_clearRow 1 = .ok (.istore_n 2, 1) := by decide +kernel
theorem dX5_clearRow_2 : decode cX5_clearRow 2 = .ok (.iload_n 2, 1) := by decide +kernel
theorem dX5_clearRow_3 : decode cX5_clearRow 3 = .ok (.iconst 3, 1) := by decide +kernel
theorem dX5_clearRow_4 : decode cX5_clearRow 4 = .ok (.if_icmp .ge 22, 3) := by decide +kernel
theorem dX5_clearRow_7 : decode cX5_clearRow 7 = .ok (.aload_n 0, 1) := by decide +kernel
theorem dX5_clearRow_8 : decode cX5_clearRow 8 = .ok (.getfield 9, 3) := by decide +kernel
theorem dX5_clearRow_11 : decode cX5_clearRow 11 = .ok (.iload_n 1, 1) := by decide +kernel
theorem dX5_clearRow_12 : decode cX5_clearRow 12 = .ok (.iconst 3, 1) := by decide +kernel
theorem dX5_clearRow_13 : decode cX5_clearRow 13 = .ok (.imul, 1) := by decide +kernel
theorem dX5_clearRow_14 : decode cX5_clearRow 14 = .ok (.iload_n 2, 1) := by decide +kernel
theorem dX5_clearRow_15 : decode cX5_clearRow 15 = .ok (.iadd, 1) := by decide +kernel
theorem dX5_clearRow_16 : decode cX5_clearRow 16 = .ok (.iconst 0, 1) := by decide +kernel
theorem dX5_clearRow_17 : decode cX5_clearRow 17 = .ok (.invokestatic 85, 3) := by decide +kernel
theorem dX5_clearRow_20 : decode cX5_clearRow 20 = .ok (.iinc 2 1, 3) := by decide +kernel
theorem dX5_clearRow_23 : decode cX5_clearRow 23 = .ok (.goto (-21), 3) := by decide +kernel
theorem dX5_clearRow_26 : decode cX5_clearRow 26 = .ok (.return_, 1) := by decide +kernel
abbrev mi_X5_clearRow : MI := (zTX, RX5, yX5_clearRow, cX5_clearRow, 3, none, 3)
theorem cal_X5_clearRow : zCalV mi_X5_clearRow 1 := ⟨⟨zTB_i5 22 (by decide +kernel), zTB_i5 21 (by decide +kernel), zTB_i0 29 (by decide +kernel), zTB_i1 10 (by decide +kernel)⟩, ⟨by decide, by decide, by decide +kernel⟩, by decide⟩
noncomputable def X5_clearRow_L1 (x1 : Int32) : Nat → Int32 → Mem → Option (Mem)
  | 0, _, _ => none
  | n + 1, c2, M =>
    if 3 ≤ c2 then
      some M
    else
    lt_ (X11_put 46 ((x1 * 3) + c2) 0 M) fun M2 =>
    X5_clearRow_L1 x1 n (c2 + 1) M2
noncomputable def X5_clearRow (x1 : Int32) (M : Mem) : Option (Mem) :=
  b1_ (α := Mem) (X5_clearRow_L1 x1 zFU 0 M) fun M3 =>
  some M3
set_option maxRecDepth 100000 in
set_option maxHeartbeats 4000000 in
theorem X5_clearRow_L1_ok (G : Gh) (x1 : Int32) {dn : Option (Mem) → Option (Option Value × Mem)} (hs : dn none = none) (hx : ∀ (M3 : Mem), Wr G mi_X5_clearRow dn 26 [none, none, none] [] M3 (some M3)) : ∀ (n : Nat) (c2 : Int32) (M : Mem), Wr G mi_X5_clearRow dn 2 [some (.ref (G.2.2.2 (41))), some (.int x1), some (.int c2)] [] M (X5_clearRow_L1 x1 n c2 M) := by
  intro n
  induction n with
  | zero => intro c2 M; exact r_none (by exact hs)
  | succ n ih =>
    intro c2 M
    rw [X5_clearRow_L1]
    refine r_iload_n dX5_clearRow_2 rfl ?_
    refine r_iconst (x := 3) dX5_clearRow_3 rfl ?_
    refine r_icmp_ge (tgt := 26) dX5_clearRow_4 rfl (fun h1 => ?_) (fun h1 => ?_)
    · exact r_lk (hx M) True.intro
    refine r_aload_n dX5_clearRow_7 rfl ?_
    refine r_getf (v := .ref (G.2.2.2 (46))) dX5_clearRow_8 fX_41_3 kX5 (by decide) lkf_X5_9 rfl ?_
    refine r_iload_n dX5_clearRow_11 rfl ?_
    refine r_iconst (x := 3) dX5_clearRow_12 rfl ?_
    refine r_imul dX5_clearRow_13 ?_
    refine r_iload_n dX5_clearRow_14 rfl ?_
    refine r_iadd dX5_clearRow_15 ?_
    refine r_iconst (x := 0) dX5_clearRow_16 rfl ?_
    refine c_V (inv_SN (mi := mi_X5_clearRow) (rest := []) (X11_put_ok G aX_46p ((x1 * 3) + c2) 0 M) rfl (by decide) dX5_clearRow_17 lkm_X5_85 cal_X11_put rfl (Nat.le_of_ble_eq_true rfl) rfl) (fun M2 => ?_)
    refine r_iinc (y := c2 + 1) (lv' := [some (.ref (G.2.2.2 (41))), some (.int x1), some (.int (c2 + 1))]) dX5_clearRow_20 rfl rfl (Nat.le_of_ble_eq_true rfl) rfl rfl ?_
    refine r_goto (tgt := 2) dX5_clearRow_23 rfl ?_
    exact r_lk (ih (c2 + 1) M2) (And.intro rfl (And.intro rfl (And.intro rfl True.intro)))
set_option maxRecDepth 100000 in
set_option maxHeartbeats 4000000 in
theorem X5_clearRow_ok (G : Gh) (x1 : Int32) (M : Mem) : Mt G mi_X5_clearRow [.ref (G.2.2.2 (41)), .int x1] M ((dO dV) (X5_clearRow x1 M)) := by
  refine Mt_of (lv := [some (.ref (G.2.2.2 (41))), some (.int x1)]) (by decide) rfl (Nat.le_of_ble_eq_true rfl) rfl ?_
  refine r_le (lv' := [some (.ref (G.2.2.2 (41))), some (.int x1), none]) (And.intro rfl (And.intro rfl True.intro)) ?_
  unfold X5_clearRow
  refine r_iconst (x := 0) dX5_clearRow_0 rfl ?_
  refine r_istore_n (lv' := [some (.ref (G.2.2.2 (41))), some (.int x1), some (.int 0)]) dX5_clearRow_1 (Nat.le_of_ble_eq_true rfl) rfl rfl ?_
  refine r_jB1 (j := 26) (lvj := fun M3 => [none, none, none]) (stj := fun M3 => []) (Mj := fun M3 => M3) (fun M3 => ?_) (fun hj26 => ?_)
  · exact r_vret dX5_clearRow_26 rfl rfl
  exact r_lk (X5_clearRow_L1_ok G x1 rfl hj26 zFU 0 M) (And.intro rfl (And.intro rfl (And.intro rfl True.intro)))

theorem dX5_growthOfAll_0 : decode cX5_growthOfAll 0 = .ok (.iconst 0, 1) := by decide +kernel
theorem dX5_growthOfAll_1 : decode cX5_growthOfAll 1 = .ok (.istore_n 2, 1) := by decide +kernel
theorem dX5_growthOfAll_2 : decode cX5_growthOfAll 2 = .ok (.iconst 0, 1) := by decide +kernel
theorem dX5_growthOfAll_3 : decode cX5_growthOfAll 3 = .ok (.istore_n 3, 1) := by decide +kernel
theorem dX5_growthOfAll_4 : decode cX5_growthOfAll 4 = .ok (.iload_n 3, 1) := by decide +kernel
theorem dX5_growthOfAll_5 : decode cX5_growthOfAll 5 = .ok (.aload_n 0, 1) := by decide +kernel
theorem dX5_growthOfAll_6 : decode cX5_growthOfAll 6 = .ok (.getfield 27, 3) := by decide +kernel
theorem dX5_growthOfAll_9 : decode cX5_growthOfAll 9 = .ok (.getfield 62, 3) := by decide +kernel
theorem dX5_growthOfAll_12 : decode cX5_growthOfAll 12 = .ok (.if_icmp .ge 21, 3) := by decide +kernel
theorem dX5_growthOfAll_15 : decode cX5_growthOfAll 15 = .ok (.iload_n 2, 1) := by decide +kernel
theorem dX5_growthOfAll_16 : decode cX5_growthOfAll 16 = .ok (.aload_n 1, 1) := by decide +kernel
theorem dX5_growthOfAll_17 : decode cX5_growthOfAll 17 = .ok (.aload_n 0, 1) := by decide +kernel
theorem dX5_growthOfAll_18 : decode cX5_growthOfAll 18 = .ok (.getfield 9, 3) := by decide +kernel
theorem dX5_growthOfAll_21 : decode cX5_growthOfAll 21 = .ok (.iload_n 3, 1) := by decide +kernel
theorem dX5_growthOfAll_22 : decode cX5_growthOfAll 22 = .ok (.invokevirtual 58, 3) := by decide +kernel
theorem dX5_growthOfAll_25 : decode cX5_growthOfAll 25 = .ok (.iadd, 1) := by decide +kernel
theorem dX5_growthOfAll_26 : decode cX5_growthOfAll 26 = .ok (.istore_n 2, 1) := by decide +kernel
theorem dX5_growthOfAll_27 : decode cX5_growthOfAll 27 = .ok (.iinc 3 1, 3) := by decide +kernel
theorem dX5_growthOfAll_30 : decode cX5_growthOfAll 30 = .ok (.goto (-26), 3) := by decide +kernel
theorem dX5_growthOfAll_33 : decode cX5_growthOfAll 33 = .ok (.iload_n 2, 1) := by decide +kernel
theorem dX5_growthOfAll_34 : decode cX5_growthOfAll 34 = .ok (.ireturn, 1) := by decide +kernel
abbrev mi_X5_growthOfAll : MI := (zTX, RX5, yX5_growthOfAll, cX5_growthOfAll, 4, (some .int), 10)
theorem cal_X5_growthOfAll : zCalV mi_X5_growthOfAll 1 := ⟨⟨zTB_i5 32 (by decide +kernel), zTB_i5 31 (by decide +kernel), zTB_i0 31 (by decide +kernel), zTB_i1 10 (by decide +kernel)⟩, ⟨by decide, by decide, by decide +kernel⟩, by decide⟩
noncomputable def X5_growthOfAll_L1 (o1 : Nat) : Nat → Int32 → Int32 → Mem → Option (Int32 × Mem)
  | 0, _, _, _ => none
  | n + 1, c2, c3, M =>
    if (M.1 23 0) ≤ c3 then
      some (c2, M)
    else
    bp_ (X9_growthWith o1 46 c3 M) fun v2 M3 =>
    X5_growthOfAll_L1 o1 n (c2 + v2) (c3 + 1) M3
noncomputable def X5_growthOfAll (o1 : Nat) (M : Mem) : Option (Int32 × Mem) :=
  b2_ (α := Int32) (β := Mem) (X5_growthOfAll_L1 o1 zFU 0 0 M) fun e4 M5 =>
  some (e4, M5)
set_option maxRecDepth 100000 in
set_option maxHeartbeats 4000000 in
theorem X5_growthOfAll_L1_ok_35 (G : Gh) {dn : Option (Int32 × Mem) → Option (Option Value × Mem)} (hs : dn none = none) (hx : ∀ (e4 : Int32) (M5 : Mem), Wr G mi_X5_growthOfAll dn 33 [none, none, some (.int e4), none] [] M5 (some (e4, M5))) : ∀ (n : Nat) (c2 : Int32) (c3 : Int32) (M : Mem), Wr G mi_X5_growthOfAll dn 4 [some (.ref (G.2.2.2 (41))), some (.ref (G.2.2.2 (35))), some (.int c2), some (.int c3)] [] M (X5_growthOfAll_L1 35 n c2 c3 M) := by
  intro n
  induction n with
  | zero => intro c2 c3 M; exact r_none (by exact hs)
  | succ n ih =>
    intro c2 c3 M
    rw [X5_growthOfAll_L1]
    refine r_iload_n dX5_growthOfAll_4 rfl ?_
    refine r_aload_n dX5_growthOfAll_5 rfl ?_
    refine r_getf (v := .ref (G.2.2.2 (23))) dX5_growthOfAll_6 fX_41_0 kX5 (by decide) lkf_X5_27 rfl ?_
    refine r_getf (v := .int (M.1 23 0)) dX5_growthOfAll_9 fX_23_0 kX3 (by decide) lkf_X5_62 rfl ?_
    refine r_icmp_ge (tgt := 33) dX5_growthOfAll_12 rfl (fun h1 => ?_) (fun h1 => ?_)
    · exact r_lk (hx c2 M) (And.intro rfl True.intro)
    refine r_iload_n dX5_growthOfAll_15 rfl ?_
    refine r_aload_n dX5_growthOfAll_16 rfl ?_
    refine r_aload_n dX5_growthOfAll_17 rfl ?_
    refine r_getf (v := .ref (G.2.2.2 (46))) dX5_growthOfAll_18 fX_41_3 kX5 (by decide) lkf_X5_9 rfl ?_
    refine r_iload_n dX5_growthOfAll_21 rfl ?_
    refine c_OIM (by exact hs) (inv_V (mi := mi_X5_growthOfAll) (b := 35) (rest := [.int c2]) (X9_growthWith_ok_35 G aX_46p c3 M) rfl (by decide) dX5_growthOfAll_22 lkm_X5_58 cal_X9_growthWith cX_35 rfl rfl (Nat.le_of_ble_eq_true rfl) rfl) (fun v2 M3 => ?_)
    refine r_iadd dX5_growthOfAll_25 ?_
    refine r_istore_n (lv' := [some (.ref (G.2.2.2 (41))), some (.ref (G.2.2.2 (35))), some (.int (c2 + v2)), some (.int c3)]) dX5_growthOfAll_26 (Nat.le_of_ble_eq_true rfl) rfl rfl ?_
    refine r_iinc (y := c3 + 1) (lv' := [some (.ref (G.2.2.2 (41))), some (.ref (G.2.2.2 (35))), some (.int (c2 + v2)), some (.int (c3 + 1))]) dX5_growthOfAll_27 rfl rfl (Nat.le_of_ble_eq_true rfl) rfl rfl ?_
    refine r_goto (tgt := 4) dX5_growthOfAll_30 rfl ?_
    exact r_lk (ih (c2 + v2) (c3 + 1) M3) (And.intro rfl (And.intro rfl (And.intro rfl (And.intro rfl True.intro))))
set_option maxRecDepth 100000 in
set_option maxHeartbeats 4000000 in
theorem X5_growthOfAll_ok_35 (G : Gh) (M : Mem) : Mt G mi_X5_growthOfAll [.ref (G.2.2.2 (41)), .ref (G.2.2.2 (35))] M ((dO dIM) (X5_growthOfAll 35 M)) := by
  refine Mt_of (lv := [some (.ref (G.2.2.2 (41))), some (.ref (G.2.2.2 (35)))]) (by decide) rfl (Nat.le_of_ble_eq_true rfl) rfl ?_
  refine r_le (lv' := [some (.ref (G.2.2.2 (41))), some (.ref (G.2.2.2 (35))), none, none]) (And.intro rfl (And.intro rfl True.intro)) ?_
  unfold X5_growthOfAll
  refine r_iconst (x := 0) dX5_growthOfAll_0 rfl ?_
  refine r_istore_n (lv' := [some (.ref (G.2.2.2 (41))), some (.ref (G.2.2.2 (35))), some (.int 0), none]) dX5_growthOfAll_1 (Nat.le_of_ble_eq_true rfl) rfl rfl ?_
  refine r_iconst (x := 0) dX5_growthOfAll_2 rfl ?_
  refine r_istore_n (lv' := [some (.ref (G.2.2.2 (41))), some (.ref (G.2.2.2 (35))), some (.int 0), some (.int 0)]) dX5_growthOfAll_3 (Nat.le_of_ble_eq_true rfl) rfl rfl ?_
  refine r_jB2 (j := 33) (lvj := fun e4 M5 => [none, none, some (.int e4), none]) (stj := fun e4 M5 => []) (Mj := fun e4 M5 => M5) (fun e4 M5 => ?_) (fun hj33 => ?_)
  · refine r_iload_n dX5_growthOfAll_33 rfl ?_
    exact r_iret (ty := .int) dX5_growthOfAll_34 rfl rfl rfl
  exact r_lk (X5_growthOfAll_L1_ok_35 G rfl hj33 zFU 0 0 M) (And.intro rfl (And.intro rfl (And.intro rfl (And.intro rfl True.intro))))
set_option maxRecDepth 100000 in
set_option maxHeartbeats 4000000 in
theorem X5_growthOfAll_L1_ok_42 (G : Gh) {dn : Option (Int32 × Mem) → Option (Option Value × Mem)} (hs : dn none = none) (hx : ∀ (e4 : Int32) (M5 : Mem), Wr G mi_X5_growthOfAll dn 33 [none, none, some (.int e4), none] [] M5 (some (e4, M5))) : ∀ (n : Nat) (c2 : Int32) (c3 : Int32) (M : Mem), Wr G mi_X5_growthOfAll dn 4 [some (.ref (G.2.2.2 (41))), some (.ref (G.2.2.2 (42))), some (.int c2), some (.int c3)] [] M (X5_growthOfAll_L1 42 n c2 c3 M) := by
  intro n
  induction n with
  | zero => intro c2 c3 M; exact r_none (by exact hs)
  | succ n ih =>
    intro c2 c3 M
    rw [X5_growthOfAll_L1]
    refine r_iload_n dX5_growthOfAll_4 rfl ?_
    refine r_aload_n dX5_growthOfAll_5 rfl ?_
    refine r_getf (v := .ref (G.2.2.2 (23))) dX5_growthOfAll_6 fX_41_0 kX5 (by decide) lkf_X5_27 rfl ?_
    refine r_getf (v := .int (M.1 23 0)) dX5_growthOfAll_9 fX_23_0 kX3 (by decide) lkf_X5_62 rfl ?_
    refine r_icmp_ge (tgt := 33) dX5_growthOfAll_12 rfl (fun h1 => ?_) (fun h1 => ?_)
    · exact r_lk (hx c2 M) (And.intro rfl True.intro)
    refine r_iload_n dX5_growthOfAll_15 rfl ?_
    refine r_aload_n dX5_growthOfAll_16 rfl ?_
    refine r_aload_n dX5_growthOfAll_17 rfl ?_
    refine r_getf (v := .ref (G.2.2.2 (46))) dX5_growthOfAll_18 fX_41_3 kX5 (by decide) lkf_X5_9 rfl ?_
    refine r_iload_n dX5_growthOfAll_21 rfl ?_
    refine c_OIM (by exact hs) (inv_V (mi := mi_X5_growthOfAll) (b := 42) (rest := [.int c2]) (X9_growthWith_ok_42 G aX_46p c3 M) rfl (by decide) dX5_growthOfAll_22 lkm_X5_58 cal_X9_growthWith cX_42 rfl rfl (Nat.le_of_ble_eq_true rfl) rfl) (fun v2 M3 => ?_)
    refine r_iadd dX5_growthOfAll_25 ?_
    refine r_istore_n (lv' := [some (.ref (G.2.2.2 (41))), some (.ref (G.2.2.2 (42))), some (.int (c2 + v2)), some (.int c3)]) dX5_growthOfAll_26 (Nat.le_of_ble_eq_true rfl) rfl rfl ?_
    refine r_iinc (y := c3 + 1) (lv' := [some (.ref (G.2.2.2 (41))), some (.ref (G.2.2.2 (42))), some (.int (c2 + v2)), some (.int (c3 + 1))]) dX5_growthOfAll_27 rfl rfl (Nat.le_of_ble_eq_true rfl) rfl rfl ?_
    refine r_goto (tgt := 4) dX5_growthOfAll_30 rfl ?_
    exact r_lk (ih (c2 + v2) (c3 + 1) M3) (And.intro rfl (And.intro rfl (And.intro rfl (And.intro rfl True.intro))))
set_option maxRecDepth 100000 in
set_option maxHeartbeats 4000000 in
theorem X5_growthOfAll_ok_42 (G : Gh) (M : Mem) : Mt G mi_X5_growthOfAll [.ref (G.2.2.2 (41)), .ref (G.2.2.2 (42))] M ((dO dIM) (X5_growthOfAll 42 M)) := by
  refine Mt_of (lv := [some (.ref (G.2.2.2 (41))), some (.ref (G.2.2.2 (42)))]) (by decide) rfl (Nat.le_of_ble_eq_true rfl) rfl ?_
  refine r_le (lv' := [some (.ref (G.2.2.2 (41))), some (.ref (G.2.2.2 (42))), none, none]) (And.intro rfl (And.intro rfl True.intro)) ?_
  unfold X5_growthOfAll
  refine r_iconst (x := 0) dX5_growthOfAll_0 rfl ?_
  refine r_istore_n (lv' := [some (.ref (G.2.2.2 (41))), some (.ref (G.2.2.2 (42))), some (.int 0), none]) dX5_growthOfAll_1 (Nat.le_of_ble_eq_true rfl) rfl rfl ?_
  refine r_iconst (x := 0) dX5_growthOfAll_2 rfl ?_
  refine r_istore_n (lv' := [some (.ref (G.2.2.2 (41))), some (.ref (G.2.2.2 (42))), some (.int 0), some (.int 0)]) dX5_growthOfAll_3 (Nat.le_of_ble_eq_true rfl) rfl rfl ?_
  refine r_jB2 (j := 33) (lvj := fun e4 M5 => [none, none, some (.int e4), none]) (stj := fun e4 M5 => []) (Mj := fun e4 M5 => M5) (fun e4 M5 => ?_) (fun hj33 => ?_)
  · refine r_iload_n dX5_growthOfAll_33 rfl ?_
    exact r_iret (ty := .int) dX5_growthOfAll_34 rfl rfl rfl
  exact r_lk (X5_growthOfAll_L1_ok_42 G rfl hj33 zFU 0 0 M) (And.intro rfl (And.intro rfl (And.intro rfl (And.intro rfl True.intro))))

theorem dX5_worthOf_0 : decode cX5_worthOf 0 = .ok (.iload_n 3, 1) := by decide +kernel
theorem dX5_worthOf_1 : decode cX5_worthOf 1 = .ok (.iconst 1, 1) := by decide +kernel
theorem dX5_worthOf_2 : decode cX5_worthOf 2 = .ok (.if_icmp .ne 9, 3) := by decide +kernel
theorem dX5_worthOf_5 : decode cX5_worthOf 5 = .ok (.aload_n 0, 1) := by decide +kernel
theorem dX5_worthOf_6 : decode cX5_worthOf 6 = .ok (.aload_n 1, 1) := by decide +kernel
theorem dX5_worthOf_7 : decode cX5_worthOf 7 = .ok (.invokevirtual 54, 3) := by decide +kernel
theorem dX5_worthOf_10 : decode cX5_worthOf 10 = .ok (.ireturn, 1) := by decide +kernel
theorem dX5_worthOf_11 : decode cX5_worthOf 11 = .ok (.aload_n 1, 1) := by decide +kernel
theorem dX5_worthOf_12 : decode cX5_worthOf 12 = .ok (.aload_n 0, 1) := by decide +kernel
theorem dX5_worthOf_13 : decode cX5_worthOf 13 = .ok (.getfield 9, 3) := by decide +kernel
theorem dX5_worthOf_16 : decode cX5_worthOf 16 = .ok (.iload_n 2, 1) := by decide +kernel
theorem dX5_worthOf_17 : decode cX5_worthOf 17 = .ok (.invokevirtual 58, 3) := by decide +kernel
theorem dX5_worthOf_20 : decode cX5_worthOf 20 = .ok (.istore 5, 2) := by decide +kernel
theorem dX5_worthOf_22 : decode cX5_worthOf 22 = .ok (.iload_n 3, 1) := by decide +kernel
theorem dX5_worthOf_23 : decode cX5_worthOf 23 = .ok (.iconst 2, 1) := by decide +kernel
theorem dX5_worthOf_24 : decode cX5_worthOf 24 = .ok (.if_icmp .ne 16, 3) := by decide +kernel
theorem dX5_worthOf_27 : decode cX5_worthOf 27 = .ok (.iload 5, 2) := by decide +kernel
theorem dX5_worthOf_29 : decode cX5_worthOf 29 = .ok (.iload 4, 2) := by decide +kernel
theorem dX5_worthOf_31 : decode cX5_worthOf 31 = .ok (.if_icmp .lt 7, 3) := by decide +kernel
theorem dX5_worthOf_34 : decode cX5_worthOf 34 = .ok (.iconst 1, 1) := by decide +kernel
theorem dX5_worthOf_35 : decode cX5_worthOf 35 = .ok (.goto 4, 3) := by decide +kernel
theorem dX5_worthOf_38 : decode cX5_worthOf 38 = .ok (.iconst 0, 1) := by decide +kernel
theorem dX5_worthOf_39 : decode cX5_worthOf 39 = .ok (.ireturn, 1) := by decide +kernel
theorem dX5_worthOf_40 : decode cX5_worthOf 40 = .ok (.iload 5, 2) := by decide +kernel
theorem dX5_worthOf_42 : decode cX5_worthOf 42 = .ok (.ireturn, 1) := by decide +kernel
abbrev mi_X5_worthOf : MI := (zTX, RX5, yX5_worthOf, cX5_worthOf, 6, (some .int), 11)
theorem cal_X5_worthOf : zCalV mi_X5_worthOf 4 := ⟨⟨zTB_i5 28 (by decide +kernel), zTB_i5 27 (by decide +kernel), zTB_i0 30 (by decide +kernel), zTB_i1 10 (by decide +kernel)⟩, ⟨by decide, by decide, by decide +kernel⟩, by decide⟩
noncomputable def X5_worthOf (o1 : Nat) (x2 : Int32) (x3 : Int32) (x4 : Int32) (M : Mem) : Option (Int32 × Mem) :=
  if x3 = 1 then
    bp_ (X5_growthOfAll o1 M) fun v6 M7 =>
    some (v6, M7)
  else
  bp_ (X9_growthWith o1 46 x2 M) fun v2 M3 =>
  if x3 = 2 then
    if v2 < x4 then
      some (0, M3)
    else
    some (1, M3)
  else
  some (v2, M3)
set_option maxRecDepth 100000 in
set_option maxHeartbeats 4000000 in
theorem X5_worthOf_ok_35 (G : Gh) (x2 : Int32) (x3 : Int32) (x4 : Int32) (M : Mem) : Mt G mi_X5_worthOf [.ref (G.2.2.2 (41)), .ref (G.2.2.2 (35)), .int x2, .int x3, .int x4] M ((dO dIM) (X5_worthOf 35 x2 x3 x4 M)) := by
  refine Mt_of (lv := [some (.ref (G.2.2.2 (41))), some (.ref (G.2.2.2 (35))), some (.int x2), some (.int x3), some (.int x4)]) (by decide) rfl (Nat.le_of_ble_eq_true rfl) rfl ?_
  refine r_le (lv' := [some (.ref (G.2.2.2 (41))), some (.ref (G.2.2.2 (35))), some (.int x2), some (.int x3), some (.int x4), none]) (And.intro rfl (And.intro rfl (And.intro rfl (And.intro rfl (And.intro rfl True.intro))))) ?_
  unfold X5_worthOf
  refine r_iload_n dX5_worthOf_0 rfl ?_
  refine r_iconst (x := 1) dX5_worthOf_1 rfl ?_
  refine r_icmp_ne (tgt := 11) dX5_worthOf_2 rfl (fun h1 => ?_) (fun h1 => ?_)
  · refine r_aload_n dX5_worthOf_5 rfl ?_
    refine r_aload_n dX5_worthOf_6 rfl ?_
    refine c_OIM rfl (inv_V (mi := mi_X5_worthOf) (b := 41) (rest := []) (X5_growthOfAll_ok_35 G M) rfl (by decide) dX5_worthOf_7 lkm_X5_54 cal_X5_growthOfAll cX_41 rfl rfl (Nat.le_of_ble_eq_true rfl) rfl) (fun v6 M7 => ?_)
    exact r_iret (ty := .int) dX5_worthOf_10 rfl rfl rfl
  refine r_aload_n dX5_worthOf_11 rfl ?_
  refine r_aload_n dX5_worthOf_12 rfl ?_
  refine r_getf (v := .ref (G.2.2.2 (46))) dX5_worthOf_13 fX_41_3 kX5 (by decide) lkf_X5_9 rfl ?_
  refine r_iload_n dX5_worthOf_16 rfl ?_
  refine c_OIM rfl (inv_V (mi := mi_X5_worthOf) (b := 35) (rest := []) (X9_growthWith_ok_35 G aX_46p x2 M) rfl (by decide) dX5_worthOf_17 lkm_X5_58 cal_X9_growthWith cX_35 rfl rfl (Nat.le_of_ble_eq_true rfl) rfl) (fun v2 M3 => ?_)
  refine r_istore (lv' := [some (.ref (G.2.2.2 (41))), some (.ref (G.2.2.2 (35))), some (.int x2), some (.int x3), some (.int x4), some (.int v2)]) dX5_worthOf_20 (Nat.le_of_ble_eq_true rfl) rfl rfl ?_
  refine r_iload_n dX5_worthOf_22 rfl ?_
  refine r_iconst (x := 2) dX5_worthOf_23 rfl ?_
  refine r_icmp_ne (tgt := 40) dX5_worthOf_24 rfl (fun h4 => ?_) (fun h4 => ?_)
  · refine r_iload dX5_worthOf_27 rfl ?_
    refine r_iload dX5_worthOf_29 rfl ?_
    refine r_icmp_lt (tgt := 38) dX5_worthOf_31 rfl (fun h5 => ?_) (fun h5 => ?_)
    · refine r_iconst (x := 0) dX5_worthOf_38 rfl ?_
      exact r_iret (ty := .int) dX5_worthOf_39 rfl rfl rfl
    refine r_iconst (x := 1) dX5_worthOf_34 rfl ?_
    refine r_goto (tgt := 39) dX5_worthOf_35 rfl ?_
    exact r_iret (ty := .int) dX5_worthOf_39 rfl rfl rfl
  refine r_iload dX5_worthOf_40 rfl ?_
  exact r_iret (ty := .int) dX5_worthOf_42 rfl rfl rfl
set_option maxRecDepth 100000 in
set_option maxHeartbeats 4000000 in
theorem X5_worthOf_ok_42 (G : Gh) (x2 : Int32) (x3 : Int32) (x4 : Int32) (M : Mem) : Mt G mi_X5_worthOf [.ref (G.2.2.2 (41)), .ref (G.2.2.2 (42)), .int x2, .int x3, .int x4] M ((dO dIM) (X5_worthOf 42 x2 x3 x4 M)) := by
  refine Mt_of (lv := [some (.ref (G.2.2.2 (41))), some (.ref (G.2.2.2 (42))), some (.int x2), some (.int x3), some (.int x4)]) (by decide) rfl (Nat.le_of_ble_eq_true rfl) rfl ?_
  refine r_le (lv' := [some (.ref (G.2.2.2 (41))), some (.ref (G.2.2.2 (42))), some (.int x2), some (.int x3), some (.int x4), none]) (And.intro rfl (And.intro rfl (And.intro rfl (And.intro rfl (And.intro rfl True.intro))))) ?_
  unfold X5_worthOf
  refine r_iload_n dX5_worthOf_0 rfl ?_
  refine r_iconst (x := 1) dX5_worthOf_1 rfl ?_
  refine r_icmp_ne (tgt := 11) dX5_worthOf_2 rfl (fun h1 => ?_) (fun h1 => ?_)
  · refine r_aload_n dX5_worthOf_5 rfl ?_
    refine r_aload_n dX5_worthOf_6 rfl ?_
    refine c_OIM rfl (inv_V (mi := mi_X5_worthOf) (b := 41) (rest := []) (X5_growthOfAll_ok_42 G M) rfl (by decide) dX5_worthOf_7 lkm_X5_54 cal_X5_growthOfAll cX_41 rfl rfl (Nat.le_of_ble_eq_true rfl) rfl) (fun v6 M7 => ?_)
    exact r_iret (ty := .int) dX5_worthOf_10 rfl rfl rfl
  refine r_aload_n dX5_worthOf_11 rfl ?_
  refine r_aload_n dX5_worthOf_12 rfl ?_
  refine r_getf (v := .ref (G.2.2.2 (46))) dX5_worthOf_13 fX_41_3 kX5 (by decide) lkf_X5_9 rfl ?_
  refine r_iload_n dX5_worthOf_16 rfl ?_
  refine c_OIM rfl (inv_V (mi := mi_X5_worthOf) (b := 42) (rest := []) (X9_growthWith_ok_42 G aX_46p x2 M) rfl (by decide) dX5_worthOf_17 lkm_X5_58 cal_X9_growthWith cX_42 rfl rfl (Nat.le_of_ble_eq_true rfl) rfl) (fun v2 M3 => ?_)
  refine r_istore (lv' := [some (.ref (G.2.2.2 (41))), some (.ref (G.2.2.2 (42))), some (.int x2), some (.int x3), some (.int x4), some (.int v2)]) dX5_worthOf_20 (Nat.le_of_ble_eq_true rfl) rfl rfl ?_
  refine r_iload_n dX5_worthOf_22 rfl ?_
  refine r_iconst (x := 2) dX5_worthOf_23 rfl ?_
  refine r_icmp_ne (tgt := 40) dX5_worthOf_24 rfl (fun h4 => ?_) (fun h4 => ?_)
  · refine r_iload dX5_worthOf_27 rfl ?_
    refine r_iload dX5_worthOf_29 rfl ?_
    refine r_icmp_lt (tgt := 38) dX5_worthOf_31 rfl (fun h5 => ?_) (fun h5 => ?_)
    · refine r_iconst (x := 0) dX5_worthOf_38 rfl ?_
      exact r_iret (ty := .int) dX5_worthOf_39 rfl rfl rfl
    refine r_iconst (x := 1) dX5_worthOf_34 rfl ?_
    refine r_goto (tgt := 39) dX5_worthOf_35 rfl ?_
    exact r_iret (ty := .int) dX5_worthOf_39 rfl rfl rfl
  refine r_iload dX5_worthOf_40 rfl ?_
  exact r_iret (ty := .int) dX5_worthOf_42 rfl rfl rfl

theorem dX5_hoursOf_0 : decode cX5_hoursOf 0 = .ok (.iconst 0, 1) := by decide +kernel
theorem dX5_hoursOf_1 : decode cX5_hoursOf 1 = .ok (.istore_n 2, 1) := by decide +kernel
theorem dX5_hoursOf_2 : decode cX5_hoursOf 2 = .ok (.iconst 0, 1) := by decide +kernel
theorem dX5_hoursOf_3 : decode cX5_hoursOf 3 = .ok (.istore_n 3, 1) := by decide +kernel
theorem dX5_hoursOf_4 : decode cX5_hoursOf 4 = .ok (.iload_n 3, 1) := by decide +kernel
theorem dX5_hoursOf_5 : decode cX5_hoursOf 5 = .ok (.iconst 3, 1) := by decide +kernel
theorem dX5_hoursOf_6 : decode cX5_hoursOf 6 = .ok (.if_icmp .ge 24, 3) := by decide +kernel
theorem dX5_hoursOf_9 : decode cX5_hoursOf 9 = .ok (.iload_n 2, 1) := by decide +kernel
theorem dX5_hoursOf_10 : decode cX5_hoursOf 10 = .ok (.aload_n 0, 1) := by decide +kernel
theorem dX5_hoursOf_11 : decode cX5_hoursOf 11 = .ok (.getfield 9, 3) := by decide +kernel
theorem dX5_hoursOf_14 : decode cX5_hoursOf 14 = .ok (.iload_n 1, 1) := by decide +kernel
theorem dX5_hoursOf_15 : decode cX5_hoursOf 15 = .ok (.iconst 3, 1) := by decide +kernel
theorem dX5_hoursOf_16 : decode cX5_hoursOf 16 = .ok (.imul, 1) := by decide +kernel
theorem dX5_hoursOf_17 : decode cX5_hoursOf 17 = .ok (.iload_n 3, 1) := by decide +kernel
theorem dX5_hoursOf_18 : decode cX5_hoursOf 18 = .ok (.iadd, 1) := by decide +kernel
theorem dX5_hoursOf_19 : decode cX5_hoursOf 19 = .ok (.invokestatic 107, 3) := by decide +kernel
theorem dX5_hoursOf_22 : decode cX5_hoursOf 22 = .ok (.iadd, 1) := by decide +kernel
theorem dX5_hoursOf_23 : decode cX5_hoursOf 23 = .ok (.istore_n 2, 1) := by decide +kernel
theorem dX5_hoursOf_24 : decode cX5_hoursOf 24 = .ok (.iinc 3 1, 3) := by decide +kernel
theorem dX5_hoursOf_27 : decode cX5_hoursOf 27 = .ok (.goto (-23), 3) := by decide +kernel
theorem dX5_hoursOf_30 : decode cX5_hoursOf 30 = .ok (.iload_n 2, 1) := by decide +kernel
theorem dX5_hoursOf_31 : decode cX5_hoursOf 31 = .ok (.ireturn, 1) := by decide +kernel
abbrev mi_X5_hoursOf : MI := (zTX, RX5, yX5_hoursOf, cX5_hoursOf, 4, (some .int), 3)
theorem cal_X5_hoursOf : zCalV mi_X5_hoursOf 1 := ⟨⟨zTB_i5 37 (by decide +kernel), zTB_i5 35 (by decide +kernel), zTB_i5 36 (by decide +kernel), zTB_i1 10 (by decide +kernel)⟩, ⟨by decide, by decide, by decide +kernel⟩, by decide⟩
noncomputable def X5_hoursOf_L1 (x1 : Int32) (M : Mem) : Nat → Int32 → Int32 → Option (Int32)
  | 0, _, _ => none
  | n + 1, c2, c3 =>
    if 3 ≤ c3 then
      some c2
    else
    lt_ (α := Int32) (c2 + (X11_cell 46 ((x1 * 3) + c3) M)) fun y2 =>
    X5_hoursOf_L1 x1 M n y2 (c3 + 1)
noncomputable def X5_hoursOf (x1 : Int32) (M : Mem) : Option (Int32) :=
  b1_ (α := Int32) (X5_hoursOf_L1 x1 M zFU 0 0) fun e3 =>
  some e3
set_option maxRecDepth 100000 in
set_option maxHeartbeats 4000000 in
theorem X5_hoursOf_L1_ok (G : Gh) (x1 : Int32) (M : Mem) {dn : Option (Int32) → Option (Option Value × Mem)} (hs : dn none = none) (hx : ∀ (e3 : Int32), Wr G mi_X5_hoursOf dn 30 [none, none, some (.int e3), none] [] M (some e3)) : ∀ (n : Nat) (c2 : Int32) (c3 : Int32), Wr G mi_X5_hoursOf dn 4 [some (.ref (G.2.2.2 (41))), some (.int x1), some (.int c2), some (.int c3)] [] M (X5_hoursOf_L1 x1 M n c2 c3) := by
  intro n
  induction n with
  | zero => intro c2 c3; exact r_none (by exact hs)
  | succ n ih =>
    intro c2 c3
    rw [X5_hoursOf_L1]
    refine r_iload_n dX5_hoursOf_4 rfl ?_
    refine r_iconst (x := 3) dX5_hoursOf_5 rfl ?_
    refine r_icmp_ge (tgt := 30) dX5_hoursOf_6 rfl (fun h1 => ?_) (fun h1 => ?_)
    · exact r_lk (hx c2) (And.intro rfl True.intro)
    refine r_iload_n dX5_hoursOf_9 rfl ?_
    refine r_aload_n dX5_hoursOf_10 rfl ?_
    refine r_getf (v := .ref (G.2.2.2 (46))) dX5_hoursOf_11 fX_41_3 kX5 (by decide) lkf_X5_9 rfl ?_
    refine r_iload_n dX5_hoursOf_14 rfl ?_
    refine r_iconst (x := 3) dX5_hoursOf_15 rfl ?_
    refine r_imul dX5_hoursOf_16 ?_
    refine r_iload_n dX5_hoursOf_17 rfl ?_
    refine r_iadd dX5_hoursOf_18 ?_
    refine c_I (inv_SN (mi := mi_X5_hoursOf) (rest := [.int c2]) (X11_cell_ok G aX_46p ((x1 * 3) + c3) M) rfl (by decide) dX5_hoursOf_19 lkm_X5_107 cal_X11_cell rfl (Nat.le_of_ble_eq_true rfl) rfl) ?_
    refine r_iadd dX5_hoursOf_22 ?_
    refine r_letI (fun y2 => ?_)
    refine r_istore_n (lv' := [some (.ref (G.2.2.2 (41))), some (.int x1), some (.int y2), some (.int c3)]) dX5_hoursOf_23 (Nat.le_of_ble_eq_true rfl) rfl rfl ?_
    refine r_iinc (y := c3 + 1) (lv' := [some (.ref (G.2.2.2 (41))), some (.int x1), some (.int y2), some (.int (c3 + 1))]) dX5_hoursOf_24 rfl rfl (Nat.le_of_ble_eq_true rfl) rfl rfl ?_
    refine r_goto (tgt := 4) dX5_hoursOf_27 rfl ?_
    exact r_lk (ih y2 (c3 + 1)) (And.intro rfl (And.intro rfl (And.intro rfl (And.intro rfl True.intro))))
set_option maxRecDepth 100000 in
set_option maxHeartbeats 4000000 in
theorem X5_hoursOf_ok (G : Gh) (x1 : Int32) (M : Mem) : Mt G mi_X5_hoursOf [.ref (G.2.2.2 (41)), .int x1] M ((dO (dI M)) (X5_hoursOf x1 M)) := by
  refine Mt_of (lv := [some (.ref (G.2.2.2 (41))), some (.int x1)]) (by decide) rfl (Nat.le_of_ble_eq_true rfl) rfl ?_
  refine r_le (lv' := [some (.ref (G.2.2.2 (41))), some (.int x1), none, none]) (And.intro rfl (And.intro rfl True.intro)) ?_
  unfold X5_hoursOf
  refine r_iconst (x := 0) dX5_hoursOf_0 rfl ?_
  refine r_istore_n (lv' := [some (.ref (G.2.2.2 (41))), some (.int x1), some (.int 0), none]) dX5_hoursOf_1 (Nat.le_of_ble_eq_true rfl) rfl rfl ?_
  refine r_iconst (x := 0) dX5_hoursOf_2 rfl ?_
  refine r_istore_n (lv' := [some (.ref (G.2.2.2 (41))), some (.int x1), some (.int 0), some (.int 0)]) dX5_hoursOf_3 (Nat.le_of_ble_eq_true rfl) rfl rfl ?_
  refine r_jB1 (j := 30) (lvj := fun e3 => [none, none, some (.int e3), none]) (stj := fun e3 => []) (Mj := fun e3 => M) (fun e3 => ?_) (fun hj30 => ?_)
  · refine r_iload_n dX5_hoursOf_30 rfl ?_
    exact r_iret (ty := .int) dX5_hoursOf_31 rfl rfl rfl
  exact r_lk (X5_hoursOf_L1_ok G x1 M rfl hj30 zFU 0 0) (And.intro rfl (And.intro rfl (And.intro rfl (And.intro rfl True.intro))))

theorem dX5_consider_0 : decode cX5_consider 0 = .ok (.aload_n 0, 1) := by decide +kernel
theorem dX5_consider_1 : decode cX5_consider 1 = .ok (.getfield 68, 3) := by decide +kernel
theorem dX5_consider_4 : decode cX5_consider 4 = .ok (.ifCond .eq 27, 3) := by decide +kernel
theorem dX5_consider_7 : decode cX5_consider 7 = .ok (.iload_n 1, 1) := by decide +kernel
theorem dX5_consider_8 : decode cX5_consider 8 = .ok (.aload_n 0, 1) := by decide +kernel
theorem dX5_consider_9 : decode cX5_consider 9 = .ok (.getfield 101, 3) := by decide +kernel
theorem dX5_consider_12 : decode cX5_consider 12 = .ok (.if_icmp .gt 19, 3) := by decide +kernel
theorem dX5_consider_15 : decode cX5_consider 15 = .ok (.iload_n 1, 1) := by decide +kernel
theorem dX5_consider_16 : decode cX5_consider 16 = .ok (.aload_n 0, 1) := by decide +kernel
theorem dX5_consider_17 : decode cX5_consider 17 = .ok (.getfield 101, 3) := by decide +kernel
theorem dX5_consider_20 : decode cX5_consider 20 = .ok (.if_icmp .ne 37, 3) := by decide +kernel
theorem dX5_consider_23 : decode cX5_consider 23 = .ok (.iload_n 2, 1) := by decide +kernel
theorem dX5_consider_24 : decode cX5_consider 24 = .ok (.aload_n 0, 1) := by decide +kernel
theorem dX5_consider_25 : decode cX5_consider 25 = .ok (.getfield 148, 3) := by decide +kernel
theorem dX5_consider_28 : decode cX5_consider 28 = .ok (.if_icmp .ge 29, 3) := by decide +kernel
theorem dX5_consider_31 : decode cX5_consider 31 = .ok (.aload_n 0, 1) := by decide +kernel
theorem dX5_consider_32 : decode cX5_consider 32 = .ok (.iconst 1, 1) := by decide +kernel
theorem dX5_consider_33 : decode cX5_consider 33 = .ok (.putfield 68, 3) := by decide +kernel
theorem dX5_consider_36 : decode cX5_consider 36 = .ok (.aload_n 0, 1) := by decide +kernel
theorem dX5_consider_37 : decode cX5_consider 37 = .ok (.iload_n 1, 1) := by decide +kernel
theorem dX5_consider_38 : decode cX5_consider 38 = .ok (.putfield 101, 3) := by decide +kernel
theorem dX5_consider_41 : decode cX5_consider 41 = .ok (.aload_n 0, 1) := by decide +kernel
theorem dX5_consider_42 : decode cX5_consider 42 = .ok (.iload_n 2, 1) := by decide +kernel
theorem dX5_consider_43 : decode cX5_consider 43 = .ok (.putfield 148, 3) := by decide +kernel
theorem dX5_consider_46 : decode cX5_consider 46 = .ok (.aload_n 0, 1) := by decide +kernel
theorem dX5_consider_47 : decode cX5_consider 47 = .ok (.getfield 9, 3) := by decide +kernel
theorem dX5_consider_50 : decode cX5_consider 50 = .ok (.aload_n 0, 1) := by decide +kernel
theorem dX5_consider_51 : decode cX5_consider 51 = .ok (.getfield 15, 3) := by decide +kernel
theorem dX5_consider_54 : decode cX5_consider 54 = .ok (.invokestatic 97, 3) := by decide +kernel
theorem dX5_consider_57 : decode cX5_consider 57 = .ok (.return_, 1) := by decide +kernel
abbrev mi_X5_consider : MI := (zTX, RX5, yX5_consider, cX5_consider, 3, none, 9)
theorem cal_X5_consider : zCalV mi_X5_consider 2 := ⟨⟨zTB_i5 42 (by decide +kernel), zTB_i5 41 (by decide +kernel), zTB_i0 32 (by decide +kernel), zTB_i1 10 (by decide +kernel)⟩, ⟨by decide, by decide, by decide +kernel⟩, by decide⟩
noncomputable def X5_consider (x1 : Int32) (x2 : Int32) (M : Mem) : Option (Mem) :=
  l1_ (α := Bool) (
    if (M.1 41 8) = 0 then
      true
    else
    if (M.1 41 9) < x1 then
      true
    else
    false) fun t3 =>
  if t3 = true then
    lt_ (uI M 41 8 1) fun M5 =>
    lt_ (uI M5 41 9 x1) fun M6 =>
    lt_ (uI M6 41 10 x2) fun M7 =>
    bo_ (X11_copyInts 46 47 M7) fun M8 =>
    some M8
  else
  if x1 = (M.1 41 9) then
    if (M.1 41 10) ≤ x2 then
      some M
    else
    lt_ (uI M 41 8 1) fun M11 =>
    lt_ (uI M11 41 9 x1) fun M12 =>
    lt_ (uI M12 41 10 x2) fun M13 =>
    bo_ (X11_copyInts 46 47 M13) fun M14 =>
    some M14
  else
  some M
set_option maxRecDepth 100000 in
set_option maxHeartbeats 4000000 in
theorem X5_consider_ok (G : Gh) (x1 : Int32) (x2 : Int32) (M : Mem) : Mt G mi_X5_consider [.ref (G.2.2.2 (41)), .int x1, .int x2] M ((dO dV) (X5_consider x1 x2 M)) := by
  refine Mt_of (lv := [some (.ref (G.2.2.2 (41))), some (.int x1), some (.int x2)]) (by decide) rfl (Nat.le_of_ble_eq_true rfl) rfl ?_
  unfold X5_consider
  refine r_aload_n dX5_consider_0 rfl ?_
  refine r_getf (v := .int (M.1 41 8)) dX5_consider_1 fX_41_8 kX5 (by decide) lkf_X5_68 rfl ?_
  refine r_cL (jX := 31) (jY := 15) (lvX := [some (.ref (G.2.2.2 (41))), some (.int x1), some (.int x2)]) (lvY := [some (.ref (G.2.2.2 (41))), some (.int x1), some (.int x2)]) (stX := []) (M1 := M) (fun h4 => ?_) (fun h4 => ?_) (fun hX31 hY15 => ?_)
  · refine r_eq (if_pos rfl) ?_
    refine r_aload_n dX5_consider_31 rfl ?_
    refine r_iconst (x := 1) dX5_consider_32 rfl ?_
    refine r_putI dX5_consider_33 fX_41_8 kX5 (by decide) rfl rfl lkf_X5_68 (fun _ => rfl) rfl rfl (fun M5 => ?_)
    refine r_aload_n dX5_consider_36 rfl ?_
    refine r_iload_n dX5_consider_37 rfl ?_
    refine r_putI dX5_consider_38 fX_41_9 kX5 (by decide) rfl rfl lkf_X5_101 (fun _ => rfl) rfl rfl (fun M6 => ?_)
    refine r_aload_n dX5_consider_41 rfl ?_
    refine r_iload_n dX5_consider_42 rfl ?_
    refine r_putI dX5_consider_43 fX_41_10 kX5 (by decide) rfl rfl lkf_X5_148 (fun _ => rfl) rfl rfl (fun M7 => ?_)
    refine r_aload_n dX5_consider_46 rfl ?_
    refine r_getf (v := .ref (G.2.2.2 (46))) dX5_consider_47 fX_41_3 kX5 (by decide) lkf_X5_9 rfl ?_
    refine r_aload_n dX5_consider_50 rfl ?_
    refine r_getf (v := .ref (G.2.2.2 (47))) dX5_consider_51 fX_41_4 kX5 (by decide) lkf_X5_15 rfl ?_
    refine c_OV rfl (inv_SN (mi := mi_X5_consider) (rest := []) (X11_copyInts_ok G aX_46p aX_47p M7) rfl (by decide) dX5_consider_54 lkm_X5_97 cal_X11_copyInts rfl (Nat.le_of_ble_eq_true rfl) rfl) (fun M8 => ?_)
    exact r_vret dX5_consider_57 rfl rfl
  · refine r_eq (if_neg (by decide)) ?_
    refine r_iload_n dX5_consider_15 rfl ?_
    refine r_aload_n dX5_consider_16 rfl ?_
    refine r_getf (v := .int (M.1 41 9)) dX5_consider_17 fX_41_9 kX5 (by decide) lkf_X5_101 rfl ?_
    refine r_icmp_ne (tgt := 57) dX5_consider_20 rfl (fun h9 => ?_) (fun h9 => ?_)
    · refine r_iload_n dX5_consider_23 rfl ?_
      refine r_aload_n dX5_consider_24 rfl ?_
      refine r_getf (v := .int (M.1 41 10)) dX5_consider_25 fX_41_10 kX5 (by decide) lkf_X5_148 rfl ?_
      refine r_icmp_ge (tgt := 57) dX5_consider_28 rfl (fun h10 => ?_) (fun h10 => ?_)
      · exact r_vret dX5_consider_57 rfl rfl
      refine r_aload_n dX5_consider_31 rfl ?_
      refine r_iconst (x := 1) dX5_consider_32 rfl ?_
      refine r_putI dX5_consider_33 fX_41_8 kX5 (by decide) rfl rfl lkf_X5_68 (fun _ => rfl) rfl rfl (fun M11 => ?_)
      refine r_aload_n dX5_consider_36 rfl ?_
      refine r_iload_n dX5_consider_37 rfl ?_
      refine r_putI dX5_consider_38 fX_41_9 kX5 (by decide) rfl rfl lkf_X5_101 (fun _ => rfl) rfl rfl (fun M12 => ?_)
      refine r_aload_n dX5_consider_41 rfl ?_
      refine r_iload_n dX5_consider_42 rfl ?_
      refine r_putI dX5_consider_43 fX_41_10 kX5 (by decide) rfl rfl lkf_X5_148 (fun _ => rfl) rfl rfl (fun M13 => ?_)
      refine r_aload_n dX5_consider_46 rfl ?_
      refine r_getf (v := .ref (G.2.2.2 (46))) dX5_consider_47 fX_41_3 kX5 (by decide) lkf_X5_9 rfl ?_
      refine r_aload_n dX5_consider_50 rfl ?_
      refine r_getf (v := .ref (G.2.2.2 (47))) dX5_consider_51 fX_41_4 kX5 (by decide) lkf_X5_15 rfl ?_
      refine c_OV rfl (inv_SN (mi := mi_X5_consider) (rest := []) (X11_copyInts_ok G aX_46p aX_47p M13) rfl (by decide) dX5_consider_54 lkm_X5_97 cal_X11_copyInts rfl (Nat.le_of_ble_eq_true rfl) rfl) (fun M14 => ?_)
      exact r_vret dX5_consider_57 rfl rfl
    exact r_vret dX5_consider_57 rfl rfl
  refine r_if_eq (tgt := 31) dX5_consider_4 rfl (fun h1 => ?_) (fun h1 => ?_)
  · exact r_lk hX31 (And.intro rfl (And.intro rfl (And.intro rfl True.intro)))
  refine r_iload_n dX5_consider_7 rfl ?_
  refine r_aload_n dX5_consider_8 rfl ?_
  refine r_getf (v := .int (M.1 41 9)) dX5_consider_9 fX_41_9 kX5 (by decide) lkf_X5_101 rfl ?_
  refine r_icmp_gt (tgt := 31) dX5_consider_12 rfl (fun h2 => ?_) (fun h2 => ?_)
  · exact r_lk hX31 (And.intro rfl (And.intro rfl (And.intro rfl True.intro)))
  exact r_lk hY15 (And.intro rfl (And.intro rfl (And.intro rfl True.intro)))

theorem dX5_nextRow_0 : decode cX5_nextRow 0 = .ok (.iconst 2, 1) := by decide +kernel
theorem dX5_nextRow_1 : decode cX5_nextRow 1 = .ok (.istore 4, 2) := by decide +kernel
theorem dX5_nextRow_3 : decode cX5_nextRow 3 = .ok (.iload 4, 2) := by decide +kernel
theorem dX5_nextRow_5 : decode cX5_nextRow 5 = .ok (.ifCond .lt 77, 3) := by decide +kernel
theorem dX5_nextRow_8 : decode cX5_nextRow 8 = .ok (.aload_n 0, 1) := by decide +kernel
theorem dX5_nextRow_9 : decode cX5_nextRow 9 = .ok (.getfield 9, 3) := by decide +kernel
theorem dX5_nextRow_12 : decode cX5_nextRow 12 = .ok (.iload_n 1, 1) := by decide +kernel
theorem dX5_nextRow_13 : decode cX5_nextRow 13 = .ok (.iconst 3, 1) := by decide +kernel
theorem dX5_nextRow_14 : decode cX5_nextRow 14 = .ok (.imul, 1) := by decide +kernel
theorem dX5_nextRow_15 : decode cX5_nextRow 15 = .ok (.iload 4, 2) := by decide +kernel
theorem dX5_nextRow_17 : decode cX5_nextRow 17 = .ok (.iadd, 1) := by decide +kernel
theorem dX5_nextRow_18 : decode cX5_nextRow 18 = .ok (.invokestatic 107, 3) := by decide +kernel
theorem dX5_nextRow_21 : decode cX5_nextRow 21 = .ok (.istore 5, 2) := by decide +kernel
theorem dX5_nextRow_23 : decode cX5_nextRow 23 = .ok (.iload 5, 2) := by decide +kernel
theorem dX5_nextRow_25 : decode cX5_nextRow 25 = .ok (.aload_n 2, 1) := by decide +kernel
theorem dX5_nextRow_26 : decode cX5_nextRow 26 = .ok (.iload 4, 2) := by decide +kernel
theorem dX5_nextRow_28 : decode cX5_nextRow 28 = .ok (.invokestatic 107, 3) := by decide +kernel
theorem dX5_nextRow_31 : decode cX5_nextRow 31 = .ok (.if_icmp .ge 31, 3) := by decide +kernel
theorem dX5_nextRow_34 : decode cX5_nextRow 34 = .ok (.aload_n 0, 1) := by decide +kernel
theorem dX5_nextRow_35 : decode cX5_nextRow 35 = .ok (.iload_n 1, 1) := by decide +kernel
theorem dX5_nextRow_36 : decode cX5_nextRow 36 = .ok (.invokevirtual 113, 3) := by decide +kernel
theorem dX5_nextRow_39 : decode cX5_nextRow 39 = .ok (.iload_n 3, 1) := by decide +kernel
theorem dX5_nextRow_40 : decode cX5_nextRow 40 = .ok (.if_icmp .ge 22, 3) := by decide +kernel
theorem dX5_nextRow_43 : decode cX5_nextRow 43 = .ok (.aload_n 0, 1) := by decide +kernel
theorem dX5_nextRow_44 : decode cX5_nextRow 44 = .ok (.getfield 9, 3) := by decide +kernel
theorem dX5_nextRow_47 : decode cX5_nextRow 47 = .ok (.iload_n 1, 1) := by decide +kernel
theorem dX5_nextRow_48 : decode cX5_nextRow 48 = .ok (.iconst 3, 1) := by decide +kernel
theorem dX5_nextRow_49 : decode cX5_nextRow 49 = .ok (.imul, 1) := by decide +kernel
theorem dX5_nextRow_50 : decode cX5_nextRow 50 = .ok (.iload 4, 2) := by decide +kernel
theorem dX5_nextRow_52 : decode cX5_nextRow 52 = .ok (.iadd, 1) := by decide +kernel
theorem dX5_nextRow_53 : decode cX5_nextRow 53 = .ok (.iload 5, 2) := by decide +kernel
theorem dX5_nextRow_55 : decode cX5_nextRow 55 = .ok (.iconst 1, 1) := by decide +kernel
theorem dX5_nextRow_56 : decode cX5_nextRow 56 = .ok (.iadd, 1) := by decide +kernel
theorem dX5_nextRow_57 : decode cX5_nextRow 57 = .ok (.invokestatic 85, 3) := by decide +kernel
theorem dX5_nextRow_60 : decode cX5_nextRow 60 = .ok (.iconst 1, 1) := by decide +kernel
theorem dX5_nextRow_61 : decode cX5_nextRow 61 = .ok (.ireturn, 1) := by decide +kernel
theorem dX5_nextRow_62 : decode cX5_nextRow 62 = .ok (.aload_n 0, 1) := by decide +kernel
theorem dX5_nextRow_63 : decode cX5_nextRow 63 = .ok (.getfield 9, 3) := by decide +kernel
theorem dX5_nextRow_66 : decode cX5_nextRow 66 = .ok (.iload_n 1, 1) := by decide +kernel
theorem dX5_nextRow_67 : decode cX5_nextRow 67 = .ok (.iconst 3, 1) := by decide +kernel
theorem dX5_nextRow_68 : decode cX5_nextRow 68 = .ok (.imul, 1) := by decide +kernel
theorem dX5_nextRow_69 : decode cX5_nextRow 69 = .ok (.iload 4, 2) := by decide +kernel
theorem dX5_nextRow_71 : decode cX5_nextRow 71 = .ok (.iadd, 1) := by decide +kernel
theorem dX5_nextRow_72 : decode cX5_nextRow 72 = .ok (.iconst 0, 1) := by decide +kernel
theorem dX5_nextRow_73 : decode cX5_nextRow 73 = .ok (.invokestatic 85, 3) := by decide +kernel
theorem dX5_nextRow_76 : decode cX5_nextRow 76 = .ok (.iinc 4 (-1), 3) := by decide +kernel
theorem dX5_nextRow_79 : decode cX5_nextRow 79 = .ok (.goto (-76), 3) := by decide +kernel
theorem dX5_nextRow_82 : decode cX5_nextRow 82 = .ok (.iconst 0, 1) := by decide +kernel
theorem dX5_nextRow_83 : decode cX5_nextRow 83 = .ok (.ireturn, 1) := by decide +kernel
abbrev mi_X5_nextRow : MI := (zTX, RX5, yX5_nextRow, cX5_nextRow, 6, (some .boolean), 4)
theorem cal_X5_nextRow : zCalV mi_X5_nextRow 3 := ⟨⟨zTB_i5 47 (by decide +kernel), zTB_i5 46 (by decide +kernel), zTB_i0 33 (by decide +kernel), zTB_i1 10 (by decide +kernel)⟩, ⟨by decide, by decide, by decide +kernel⟩, by decide⟩
noncomputable def X5_nextRow_L1 (x1 : Int32) (a2 : Nat) (x3 : Int32) : Nat → Int32 → Mem → Option (Bool × Mem)
  | 0, _, _ => none
  | n + 1, c4, M =>
    if c4 < 0 then
      some (false, M)
    else
    lt_ (α := Int32) ((X11_cell 46 ((x1 * 3) + c4) M)) fun y2 =>
    b1_ (α := Bool) (
      if (X11_cell a2 c4 M) ≤ y2 then
        some true
      else
      bo_ (X5_hoursOf x1 M) fun v4 =>
      if x3 ≤ v4 then
        some true
      else
      some false) fun t6 =>
    if t6 = true then
      lt_ (X11_put 46 ((x1 * 3) + c4) 0 M) fun M8 =>
      X5_nextRow_L1 x1 a2 x3 n (c4 + (-1)) M8
    else
    lt_ (X11_put 46 ((x1 * 3) + c4) (y2 + 1) M) fun M9 =>
    some (true, M9)
noncomputable def X5_nextRow (x1 : Int32) (a2 : Nat) (x3 : Int32) (M : Mem) : Option (Bool × Mem) :=
  X5_nextRow_L1 x1 a2 x3 zFU 2 M
set_option maxRecDepth 100000 in
set_option maxHeartbeats 4000000 in
theorem X5_nextRow_L1_ok (G : Gh) {a2 : Nat} (ha2 : zar zTX a2 = some (0, zlen zTX a2)) (x1 : Int32) (x3 : Int32) : ∀ (n : Nat) (c4 : Int32) (M : Mem), Wr G mi_X5_nextRow (dO dZM) 3 [some (.ref (G.2.2.2 (41))), some (.int x1), some (.ref (G.2.2.2 (a2))), some (.int x3), some (.int c4), none] [] M (X5_nextRow_L1 x1 a2 x3 n c4 M) := by
  intro n
  induction n with
  | zero => intro c4 M; exact r_none rfl
  | succ n ih =>
    intro c4 M
    rw [X5_nextRow_L1]
    refine r_iload dX5_nextRow_3 rfl ?_
    refine r_if_lt (tgt := 82) dX5_nextRow_5 rfl (fun h1 => ?_) (fun h1 => ?_)
    · refine r_iconst (x := 0) dX5_nextRow_82 rfl ?_
      exact r_iret (ty := .boolean) dX5_nextRow_83 rfl rfl rfl
    refine r_aload_n dX5_nextRow_8 rfl ?_
    refine r_getf (v := .ref (G.2.2.2 (46))) dX5_nextRow_9 fX_41_3 kX5 (by decide) lkf_X5_9 rfl ?_
    refine r_iload_n dX5_nextRow_12 rfl ?_
    refine r_iconst (x := 3) dX5_nextRow_13 rfl ?_
    refine r_imul dX5_nextRow_14 ?_
    refine r_iload dX5_nextRow_15 rfl ?_
    refine r_iadd dX5_nextRow_17 ?_
    refine c_I (inv_SN (mi := mi_X5_nextRow) (rest := []) (X11_cell_ok G aX_46p ((x1 * 3) + c4) M) rfl (by decide) dX5_nextRow_18 lkm_X5_107 cal_X11_cell rfl (Nat.le_of_ble_eq_true rfl) rfl) ?_
    refine r_letI (fun y2 => ?_)
    refine r_istore (lv' := [some (.ref (G.2.2.2 (41))), some (.int x1), some (.ref (G.2.2.2 (a2))), some (.int x3), some (.int c4), some (.int y2)]) dX5_nextRow_21 (Nat.le_of_ble_eq_true rfl) rfl rfl ?_
    refine r_iload dX5_nextRow_23 rfl ?_
    refine r_aload_n dX5_nextRow_25 rfl ?_
    refine r_iload dX5_nextRow_26 rfl ?_
    refine c_I (inv_SN (mi := mi_X5_nextRow) (rest := [.int y2]) (X11_cell_ok G ha2 c4 M) rfl (by decide) dX5_nextRow_28 lkm_X5_107 cal_X11_cell rfl (Nat.le_of_ble_eq_true rfl) rfl) ?_
    refine r_cB (jX := 62) (jY := 43) (lvX := [some (.ref (G.2.2.2 (41))), some (.int x1), some (.ref (G.2.2.2 (a2))), some (.int x3), some (.int c4), none]) (lvY := [some (.ref (G.2.2.2 (41))), some (.int x1), none, none, some (.int c4), some (.int y2)]) (stX := []) (M1 := M) (fun h7 => ?_) (fun h7 => ?_) (fun hX62 hY43 => ?_)
    · refine r_eq (if_pos rfl) ?_
      refine r_aload_n dX5_nextRow_62 rfl ?_
      refine r_getf (v := .ref (G.2.2.2 (46))) dX5_nextRow_63 fX_41_3 kX5 (by decide) lkf_X5_9 rfl ?_
      refine r_iload_n dX5_nextRow_66 rfl ?_
      refine r_iconst (x := 3) dX5_nextRow_67 rfl ?_
      refine r_imul dX5_nextRow_68 ?_
      refine r_iload dX5_nextRow_69 rfl ?_
      refine r_iadd dX5_nextRow_71 ?_
      refine r_iconst (x := 0) dX5_nextRow_72 rfl ?_
      refine c_V (inv_SN (mi := mi_X5_nextRow) (rest := []) (X11_put_ok G aX_46p ((x1 * 3) + c4) 0 M) rfl (by decide) dX5_nextRow_73 lkm_X5_85 cal_X11_put rfl (Nat.le_of_ble_eq_true rfl) rfl) (fun M8 => ?_)
      refine r_iinc (y := c4 + (-1)) (lv' := [some (.ref (G.2.2.2 (41))), some (.int x1), some (.ref (G.2.2.2 (a2))), some (.int x3), some (.int (c4 + (-1))), none]) dX5_nextRow_76 rfl rfl (Nat.le_of_ble_eq_true rfl) rfl rfl ?_
      refine r_goto (tgt := 3) dX5_nextRow_79 rfl ?_
      exact r_lk (ih (c4 + (-1)) M8) (And.intro rfl (And.intro rfl (And.intro rfl (And.intro rfl (And.intro rfl True.intro)))))
    · refine r_eq (if_neg (by decide)) ?_
      refine r_aload_n dX5_nextRow_43 rfl ?_
      refine r_getf (v := .ref (G.2.2.2 (46))) dX5_nextRow_44 fX_41_3 kX5 (by decide) lkf_X5_9 rfl ?_
      refine r_iload_n dX5_nextRow_47 rfl ?_
      refine r_iconst (x := 3) dX5_nextRow_48 rfl ?_
      refine r_imul dX5_nextRow_49 ?_
      refine r_iload dX5_nextRow_50 rfl ?_
      refine r_iadd dX5_nextRow_52 ?_
      refine r_iload dX5_nextRow_53 rfl ?_
      refine r_iconst (x := 1) dX5_nextRow_55 rfl ?_
      refine r_iadd dX5_nextRow_56 ?_
      refine c_V (inv_SN (mi := mi_X5_nextRow) (rest := []) (X11_put_ok G aX_46p ((x1 * 3) + c4) (y2 + 1) M) rfl (by decide) dX5_nextRow_57 lkm_X5_85 cal_X11_put rfl (Nat.le_of_ble_eq_true rfl) rfl) (fun M9 => ?_)
      refine r_iconst (x := 1) dX5_nextRow_60 rfl ?_
      exact r_iret (ty := .boolean) dX5_nextRow_61 rfl rfl rfl
    refine r_icmp_ge (tgt := 62) dX5_nextRow_31 rfl (fun h3 => ?_) (fun h3 => ?_)
    · exact r_lk hX62 (And.intro rfl (And.intro rfl (And.intro rfl (And.intro rfl (And.intro rfl True.intro)))))
    refine r_aload_n dX5_nextRow_34 rfl ?_
    refine r_iload_n dX5_nextRow_35 rfl ?_
    refine c_OI rfl (inv_V (mi := mi_X5_nextRow) (b := 41) (rest := []) (X5_hoursOf_ok G x1 M) rfl (by decide) dX5_nextRow_36 lkm_X5_113 cal_X5_hoursOf cX_41 rfl rfl (Nat.le_of_ble_eq_true rfl) rfl) (fun v4 => ?_)
    refine r_iload_n dX5_nextRow_39 rfl ?_
    refine r_icmp_ge (tgt := 62) dX5_nextRow_40 rfl (fun h5 => ?_) (fun h5 => ?_)
    · exact r_lk hX62 (And.intro rfl (And.intro rfl (And.intro rfl (And.intro rfl (And.intro rfl True.intro)))))
    exact r_lk hY43 (And.intro rfl (And.intro rfl (And.intro rfl (And.intro rfl True.intro))))
set_option maxRecDepth 100000 in
set_option maxHeartbeats 4000000 in
theorem X5_nextRow_ok (G : Gh) (x1 : Int32) {a2 : Nat} (ha2 : zar zTX a2 = some (0, zlen zTX a2)) (x3 : Int32) (M : Mem) : Mt G mi_X5_nextRow [.ref (G.2.2.2 (41)), .int x1, .ref (G.2.2.2 (a2)), .int x3] M ((dO dZM) (X5_nextRow x1 a2 x3 M)) := by
  refine Mt_of (lv := [some (.ref (G.2.2.2 (41))), some (.int x1), some (.ref (G.2.2.2 (a2))), some (.int x3)]) (by decide) rfl (Nat.le_of_ble_eq_true rfl) rfl ?_
  refine r_le (lv' := [some (.ref (G.2.2.2 (41))), some (.int x1), some (.ref (G.2.2.2 (a2))), some (.int x3), none, none]) (And.intro rfl (And.intro rfl (And.intro rfl (And.intro rfl True.intro)))) ?_
  unfold X5_nextRow
  refine r_iconst (x := 2) dX5_nextRow_0 rfl ?_
  refine r_istore (lv' := [some (.ref (G.2.2.2 (41))), some (.int x1), some (.ref (G.2.2.2 (a2))), some (.int x3), some (.int 2), none]) dX5_nextRow_1 (Nat.le_of_ble_eq_true rfl) rfl rfl ?_
  exact r_lk (X5_nextRow_L1_ok G ha2 x1 x3 zFU 2 M) (And.intro rfl (And.intro rfl (And.intro rfl (And.intro rfl (And.intro rfl True.intro)))))

theorem dX5_seek_0 : decode cX5_seek 0 = .ok (.aload_n 0, 1) := by decide +kernel
theorem dX5_seek_1 : decode cX5_seek 1 = .ok (.iload_n 2, 1) := by decide +kernel
theorem dX5_seek_2 : decode cX5_seek 2 = .ok (.invokevirtual 141, 3) := by decide +kernel
theorem dX5_seek_5 : decode cX5_seek 5 = .ok (.aload_n 0, 1) := by decide +kernel
theorem dX5_seek_6 : decode cX5_seek 6 = .ok (.iconst 0, 1) := by decide +kernel
theorem dX5_seek_7 : decode cX5_seek 7 = .ok (.putfield 68, 3) := by decide +kernel
theorem dX5_seek_10 : decode cX5_seek 10 = .ok (.iconst 0, 1) := by decide +kernel
theorem dX5_seek_11 : decode cX5_seek 11 = .ok (.istore 5, 2) := by decide +kernel
theorem dX5_seek_13 : decode cX5_seek 13 = .ok (.iload 5, 2) := by decide +kernel
theorem dX5_seek_15 : decode cX5_seek 15 = .ok (.iconst 3, 1) := by decide +kernel
theorem dX5_seek_16 : decode cX5_seek 16 = .ok (.if_icmp .ge 25, 3) := by decide +kernel
theorem dX5_seek_19 : decode cX5_seek 19 = .ok (.aload_n 0, 1) := by decide +kernel
theorem dX5_seek_20 : decode cX5_seek 20 = .ok (.getfield 21, 3) := by decide +kernel
theorem dX5_seek_23 : decode cX5_seek 23 = .ok (.iload 5, 2) := by decide +kernel
theorem dX5_seek_25 : decode cX5_seek 25 = .ok (.aload_n 1, 1) := by decide +kernel
theorem dX5_seek_26 : decode cX5_seek 26 = .ok (.iload_n 2, 1) := by decide +kernel
theorem dX5_seek_27 : decode cX5_seek 27 = .ok (.iload 5, 2) := by decide +kernel
theorem dX5_seek_29 : decode cX5_seek 29 = .ok (.invokevirtual 104, 3) := by decide +kernel
theorem dX5_seek_32 : decode cX5_seek 32 = .ok (.invokestatic 85, 3) := by decide +kernel
theorem dX5_seek_35 : decode cX5_seek 35 = .ok (.iinc 5 1, 3) := by decide +kernel
theorem dX5_seek_38 : decode cX5_seek 38 = .ok (.goto (-25), 3) := by decide +kernel
theorem dX5_seek_41 : decode cX5_seek 41 = .ok (.aload_n 1, 1) := by decide +kernel
theorem dX5_seek_42 : decode cX5_seek 42 = .ok (.iload_n 2, 1) := by decide +kernel
theorem dX5_seek_43 : decode cX5_seek 43 = .ok (.invokevirtual 72, 3) := by decide +kernel
theorem dX5_seek_46 : decode cX5_seek 46 = .ok (.istore 5, 2) := by decide +kernel
theorem dX5_seek_48 : decode cX5_seek 48 = .ok (.iconst 1, 1) := by decide +kernel
theorem dX5_seek_49 : decode cX5_seek 49 = .ok (.istore 6, 2) := by decide +kernel
theorem dX5_seek_51 : decode cX5_seek 51 = .ok (.iconst 0, 1) := by decide +kernel
theorem dX5_seek_52 : decode cX5_seek 52 = .ok (.istore 7, 2) := by decide +kernel
theorem dX5_seek_54 : decode cX5_seek 54 = .ok (.iload 7, 2) := by decide +kernel
theorem dX5_seek_56 : decode cX5_seek 56 = .ok (.sipush 165, 3) := by decide +kernel
theorem dX5_seek_59 : decode cX5_seek 59 = .ok (.if_icmp .ge 45, 3) := by decide +kernel
theorem dX5_seek_62 : decode cX5_seek 62 = .ok (.iload 6, 2) := by decide +kernel
theorem dX5_seek_64 : decode cX5_seek 64 = .ok (.ifCond .eq 40, 3) := by decide +kernel
theorem dX5_seek_67 : decode cX5_seek 67 = .ok (.aload_n 0, 1) := by decide +kernel
theorem dX5_seek_68 : decode cX5_seek 68 = .ok (.aload_n 0, 1) := by decide +kernel
theorem dX5_seek_69 : decode cX5_seek 69 = .ok (.aload_n 1, 1) := by decide +kernel
theorem dX5_seek_70 : decode cX5_seek 70 = .ok (.iload_n 2, 1) := by decide +kernel
theorem dX5_seek_71 : decode cX5_seek 71 = .ok (.iload_n 3, 1) := by decide +kernel
theorem dX5_seek_72 : decode cX5_seek 72 = .ok (.iload 4, 2) := by decide +kernel
theorem dX5_seek_74 : decode cX5_seek 74 = .ok (.invokevirtual 145, 3) := by decide +kernel
theorem dX5_seek_77 : decode cX5_seek 77 = .ok (.aload_n 0, 1) := by decide +kernel
theorem dX5_seek_78 : decode cX5_seek 78 = .ok (.iload_n 2, 1) := by decide +kernel
theorem dX5_seek_79 : decode cX5_seek 79 = .ok (.invokevirtual 113, 3) := by decide +kernel
theorem dX5_seek_82 : decode cX5_seek 82 = .ok (.invokevirtual 116, 3) := by decide +kernel
theorem dX5_seek_85 : decode cX5_seek 85 = .ok (.aload_n 0, 1) := by decide +kernel
theorem dX5_seek_86 : decode cX5_seek 86 = .ok (.iload_n 2, 1) := by decide +kernel
theorem dX5_seek_87 : decode cX5_seek 87 = .ok (.aload_n 0, 1) := by decide +kernel
theorem dX5_seek_88 : decode cX5_seek 88 = .ok (.getfield 21, 3) := by decide +kernel
theorem dX5_seek_91 : decode cX5_seek 91 = .ok (.iload 5, 2) := by decide +kernel
theorem dX5_seek_93 : decode cX5_seek 93 = .ok (.invokevirtual 93, 3) := by decide +kernel
theorem dX5_seek_96 : decode cX5_seek 96 = .ok (.istore 6, 2) := by decide +kernel
theorem dX5_seek_98 : decode cX5_seek 98 = .ok (.iinc 7 1, 3) := by decide +kernel
theorem dX5_seek_101 : decode cX5_seek 101 = .ok (.goto (-47), 3) := by decide +kernel
theorem dX5_seek_104 : decode cX5_seek 104 = .ok (.aload_n 0, 1) := by decide +kernel
theorem dX5_seek_105 : decode cX5_seek 105 = .ok (.getfield 15, 3) := by decide +kernel
theorem dX5_seek_108 : decode cX5_seek 108 = .ok (.aload_n 0, 1) := by decide +kernel
theorem dX5_seek_109 : decode cX5_seek 109 = .ok (.getfield 9, 3) := by decide +kernel
theorem dX5_seek_112 : decode cX5_seek 112 = .ok (.invokestatic 97, 3) := by decide +kernel
theorem dX5_seek_115 : decode cX5_seek 115 = .ok (.aload_n 0, 1) := by decide +kernel
theorem dX5_seek_116 : decode cX5_seek 116 = .ok (.getfield 101, 3) := by decide +kernel
theorem dX5_seek_119 : decode cX5_seek 119 = .ok (.ireturn, 1) := by decide +kernel
abbrev mi_X5_seek : MI := (zTX, RX5, yX5_seek, cX5_seek, 8, (some .int), 12)
theorem cal_X5_seek : zCalV mi_X5_seek 4 := ⟨⟨zTB_i5 18 (by decide +kernel), zTB_i5 17 (by decide +kernel), zTB_i0 28 (by decide +kernel), zTB_i1 10 (by decide +kernel)⟩, ⟨by decide, by decide, by decide +kernel⟩, by decide⟩
noncomputable def X5_seek_L2 (o1 : Nat) (x2 : Int32) (x3 : Int32) (x4 : Int32) (y6 : Int32) : Nat → Int32 → Int32 → Mem → Option (Mem)
  | 0, _, _, _ => none
  | n + 1, c6, c7, M =>
    if 165 ≤ c7 then
      some M
    else
    if c6 = 0 then
      some M
    else
    bp_ (X5_worthOf o1 x2 x3 x4 M) fun v9 M10 =>
    bo_ (X5_hoursOf x2 M10) fun v11 =>
    bo_ (X5_consider v9 v11 M10) fun M12 =>
    bp_ (X5_nextRow x2 49 y6 M12) fun b13 M14 =>
    X5_seek_L2 o1 x2 x3 x4 y6 n (b2i (b13)) (c7 + 1) M14
noncomputable def X5_seek_L1 (o1 : Nat) (x2 : Int32) : Nat → Int32 → Mem → Option (Mem)
  | 0, _, _ => none
  | n + 1, c5, M =>
    if 3 ≤ c5 then
      some M
    else
    lt_ (X11_put 49 c5 (X9_purseOf o1 x2 c5 M) M) fun M4 =>
    X5_seek_L1 o1 x2 n (c5 + 1) M4
noncomputable def X5_seek (o1 : Nat) (x2 : Int32) (x3 : Int32) (x4 : Int32) (M : Mem) : Option (Int32 × Mem) :=
  bo_ (X5_clearRow x2 M) fun M1 =>
  lt_ (uI M1 41 8 0) fun M2 =>
  b1_ (α := Mem) (X5_seek_L1 o1 x2 zFU 0 M2) fun M5 =>
  lt_ (α := Int32) ((X9_leftOf o1 x2 M5)) fun y6 =>
  b1_ (α := Mem) (X5_seek_L2 o1 x2 x3 x4 y6 zFU 1 0 M5) fun M15 =>
  bo_ (X11_copyInts 47 46 M15) fun M16 =>
  some (M16.1 41 9, M16)
set_option maxRecDepth 100000 in
set_option maxHeartbeats 4000000 in
theorem X5_seek_L2_ok_35 (G : Gh) (x2 : Int32) (x3 : Int32) (x4 : Int32) (y6 : Int32) {dn : Option (Mem) → Option (Option Value × Mem)} (hs : dn none = none) (hx : ∀ (M15 : Mem), Wr G mi_X5_seek dn 104 [some (.ref (G.2.2.2 (41))), none, none, none, none, none, none, none] [] M15 (some M15)) : ∀ (n : Nat) (c6 : Int32) (c7 : Int32) (M : Mem), Wr G mi_X5_seek dn 54 [some (.ref (G.2.2.2 (41))), some (.ref (G.2.2.2 (35))), some (.int x2), some (.int x3), some (.int x4), some (.int y6), some (.int c6), some (.int c7)] [] M (X5_seek_L2 35 x2 x3 x4 y6 n c6 c7 M) := by
  intro n
  induction n with
  | zero => intro c6 c7 M; exact r_none (by exact hs)
  | succ n ih =>
    intro c6 c7 M
    rw [X5_seek_L2]
    refine r_iload dX5_seek_54 rfl ?_
    refine r_sipush (x := 165) dX5_seek_56 rfl ?_
    refine r_icmp_ge (tgt := 104) dX5_seek_59 rfl (fun h7 => ?_) (fun h7 => ?_)
    · exact r_lk (hx M) (And.intro rfl True.intro)
    refine r_iload dX5_seek_62 rfl ?_
    refine r_if_eq (tgt := 104) dX5_seek_64 rfl (fun h8 => ?_) (fun h8 => ?_)
    · exact r_lk (hx M) (And.intro rfl True.intro)
    refine r_aload_n dX5_seek_67 rfl ?_
    refine r_aload_n dX5_seek_68 rfl ?_
    refine r_aload_n dX5_seek_69 rfl ?_
    refine r_iload_n dX5_seek_70 rfl ?_
    refine r_iload_n dX5_seek_71 rfl ?_
    refine r_iload dX5_seek_72 rfl ?_
    refine c_OIM (by exact hs) (inv_V (mi := mi_X5_seek) (b := 41) (rest := [.ref (G.2.2.2 (41))]) (X5_worthOf_ok_35 G x2 x3 x4 M) rfl (by decide) dX5_seek_74 lkm_X5_145 cal_X5_worthOf cX_41 rfl rfl (Nat.le_of_ble_eq_true rfl) rfl) (fun v9 M10 => ?_)
    refine r_aload_n dX5_seek_77 rfl ?_
    refine r_iload_n dX5_seek_78 rfl ?_
    refine c_OI (by exact hs) (inv_V (mi := mi_X5_seek) (b := 41) (rest := [.int v9, .ref (G.2.2.2 (41))]) (X5_hoursOf_ok G x2 M10) rfl (by decide) dX5_seek_79 lkm_X5_113 cal_X5_hoursOf cX_41 rfl rfl (Nat.le_of_ble_eq_true rfl) rfl) (fun v11 => ?_)
    refine c_OV (by exact hs) (inv_V (mi := mi_X5_seek) (b := 41) (rest := []) (X5_consider_ok G v9 v11 M10) rfl (by decide) dX5_seek_82 lkm_X5_116 cal_X5_consider cX_41 rfl rfl (Nat.le_of_ble_eq_true rfl) rfl) (fun M12 => ?_)
    refine r_aload_n dX5_seek_85 rfl ?_
    refine r_iload_n dX5_seek_86 rfl ?_
    refine r_aload_n dX5_seek_87 rfl ?_
    refine r_getf (v := .ref (G.2.2.2 (49))) dX5_seek_88 fX_41_6 kX5 (by decide) lkf_X5_21 rfl ?_
    refine r_iload dX5_seek_91 rfl ?_
    refine c_OZM (by exact hs) (inv_V (mi := mi_X5_seek) (b := 41) (rest := []) (X5_nextRow_ok G x2 aX_49p y6 M12) rfl (by decide) dX5_seek_93 lkm_X5_93 cal_X5_nextRow cX_41 rfl rfl (Nat.le_of_ble_eq_true rfl) rfl) (fun b13 M14 => ?_)
    refine r_istore (lv' := [some (.ref (G.2.2.2 (41))), some (.ref (G.2.2.2 (35))), some (.int x2), some (.int x3), some (.int x4), some (.int y6), some (.int (b2i (b13))), some (.int c7)]) dX5_seek_96 (Nat.le_of_ble_eq_true rfl) rfl rfl ?_
    refine r_iinc (y := c7 + 1) (lv' := [some (.ref (G.2.2.2 (41))), some (.ref (G.2.2.2 (35))), some (.int x2), some (.int x3), some (.int x4), some (.int y6), some (.int (b2i (b13))), some (.int (c7 + 1))]) dX5_seek_98 rfl rfl (Nat.le_of_ble_eq_true rfl) rfl rfl ?_
    refine r_goto (tgt := 54) dX5_seek_101 rfl ?_
    exact r_lk (ih (b2i (b13)) (c7 + 1) M14) (And.intro rfl (And.intro rfl (And.intro rfl (And.intro rfl (And.intro rfl (And.intro rfl (And.intro rfl (And.intro rfl True.intro))))))))
set_option maxRecDepth 100000 in
set_option maxHeartbeats 4000000 in
theorem X5_seek_L1_ok_35 (G : Gh) (x2 : Int32) (x3 : Int32) (x4 : Int32) {dn : Option (Mem) → Option (Option Value × Mem)} (hs : dn none = none) (hx : ∀ (M5 : Mem), Wr G mi_X5_seek dn 41 [some (.ref (G.2.2.2 (41))), some (.ref (G.2.2.2 (35))), some (.int x2), some (.int x3), some (.int x4), none, none, none] [] M5 (some M5)) : ∀ (n : Nat) (c5 : Int32) (M : Mem), Wr G mi_X5_seek dn 13 [some (.ref (G.2.2.2 (41))), some (.ref (G.2.2.2 (35))), some (.int x2), some (.int x3), some (.int x4), some (.int c5), none, none] [] M (X5_seek_L1 35 x2 n c5 M) := by
  intro n
  induction n with
  | zero => intro c5 M; exact r_none (by exact hs)
  | succ n ih =>
    intro c5 M
    rw [X5_seek_L1]
    refine r_iload dX5_seek_13 rfl ?_
    refine r_iconst (x := 3) dX5_seek_15 rfl ?_
    refine r_icmp_ge (tgt := 41) dX5_seek_16 rfl (fun h3 => ?_) (fun h3 => ?_)
    · exact r_lk (hx M) (And.intro rfl (And.intro rfl (And.intro rfl (And.intro rfl (And.intro rfl True.intro)))))
    refine r_aload_n dX5_seek_19 rfl ?_
    refine r_getf (v := .ref (G.2.2.2 (49))) dX5_seek_20 fX_41_6 kX5 (by decide) lkf_X5_21 rfl ?_
    refine r_iload dX5_seek_23 rfl ?_
    refine r_aload_n dX5_seek_25 rfl ?_
    refine r_iload_n dX5_seek_26 rfl ?_
    refine r_iload dX5_seek_27 rfl ?_
    refine c_I (inv_V (mi := mi_X5_seek) (b := 35) (rest := [.int c5, .ref (G.2.2.2 (49))]) (X9_purseOf_ok_35 G x2 c5 M) rfl (by decide) dX5_seek_29 lkm_X5_104 cal_X9_purseOf cX_35 rfl rfl (Nat.le_of_ble_eq_true rfl) rfl) ?_
    refine c_V (inv_SN (mi := mi_X5_seek) (rest := []) (X11_put_ok G aX_49p c5 (X9_purseOf 35 x2 c5 M) M) rfl (by decide) dX5_seek_32 lkm_X5_85 cal_X11_put rfl (Nat.le_of_ble_eq_true rfl) rfl) (fun M4 => ?_)
    refine r_iinc (y := c5 + 1) (lv' := [some (.ref (G.2.2.2 (41))), some (.ref (G.2.2.2 (35))), some (.int x2), some (.int x3), some (.int x4), some (.int (c5 + 1)), none, none]) dX5_seek_35 rfl rfl (Nat.le_of_ble_eq_true rfl) rfl rfl ?_
    refine r_goto (tgt := 13) dX5_seek_38 rfl ?_
    exact r_lk (ih (c5 + 1) M4) (And.intro rfl (And.intro rfl (And.intro rfl (And.intro rfl (And.intro rfl (And.intro rfl True.intro))))))
set_option maxRecDepth 100000 in
set_option maxHeartbeats 4000000 in
theorem X5_seek_ok_35 (G : Gh) (x2 : Int32) (x3 : Int32) (x4 : Int32) (M : Mem) : Mt G mi_X5_seek [.ref (G.2.2.2 (41)), .ref (G.2.2.2 (35)), .int x2, .int x3, .int x4] M ((dO dIM) (X5_seek 35 x2 x3 x4 M)) := by
  refine Mt_of (lv := [some (.ref (G.2.2.2 (41))), some (.ref (G.2.2.2 (35))), some (.int x2), some (.int x3), some (.int x4)]) (by decide) rfl (Nat.le_of_ble_eq_true rfl) rfl ?_
  refine r_le (lv' := [some (.ref (G.2.2.2 (41))), some (.ref (G.2.2.2 (35))), some (.int x2), some (.int x3), some (.int x4), none, none, none]) (And.intro rfl (And.intro rfl (And.intro rfl (And.intro rfl (And.intro rfl True.intro))))) ?_
  unfold X5_seek
  refine r_aload_n dX5_seek_0 rfl ?_
  refine r_iload_n dX5_seek_1 rfl ?_
  refine c_OV rfl (inv_V (mi := mi_X5_seek) (b := 41) (rest := []) (X5_clearRow_ok G x2 M) rfl (by decide) dX5_seek_2 lkm_X5_141 cal_X5_clearRow cX_41 rfl rfl (Nat.le_of_ble_eq_true rfl) rfl) (fun M1 => ?_)
  refine r_aload_n dX5_seek_5 rfl ?_
  refine r_iconst (x := 0) dX5_seek_6 rfl ?_
  refine r_putI dX5_seek_7 fX_41_8 kX5 (by decide) rfl rfl lkf_X5_68 (fun _ => rfl) rfl rfl (fun M2 => ?_)
  refine r_iconst (x := 0) dX5_seek_10 rfl ?_
  refine r_istore (lv' := [some (.ref (G.2.2.2 (41))), some (.ref (G.2.2.2 (35))), some (.int x2), some (.int x3), some (.int x4), some (.int 0), none, none]) dX5_seek_11 (Nat.le_of_ble_eq_true rfl) rfl rfl ?_
  refine r_jB1 (j := 41) (lvj := fun M5 => [some (.ref (G.2.2.2 (41))), some (.ref (G.2.2.2 (35))), some (.int x2), some (.int x3), some (.int x4), none, none, none]) (stj := fun M5 => []) (Mj := fun M5 => M5) (fun M5 => ?_) (fun hj41 => ?_)
  · refine r_aload_n dX5_seek_41 rfl ?_
    refine r_iload_n dX5_seek_42 rfl ?_
    refine c_I (inv_V (mi := mi_X5_seek) (b := 35) (rest := []) (X9_leftOf_ok_35 G x2 M5) rfl (by decide) dX5_seek_43 lkm_X5_72 cal_X9_leftOf cX_35 rfl rfl (Nat.le_of_ble_eq_true rfl) rfl) ?_
    refine r_letI (fun y6 => ?_)
    refine r_istore (lv' := [some (.ref (G.2.2.2 (41))), some (.ref (G.2.2.2 (35))), some (.int x2), some (.int x3), some (.int x4), some (.int y6), none, none]) dX5_seek_46 (Nat.le_of_ble_eq_true rfl) rfl rfl ?_
    refine r_iconst (x := 1) dX5_seek_48 rfl ?_
    refine r_istore (lv' := [some (.ref (G.2.2.2 (41))), some (.ref (G.2.2.2 (35))), some (.int x2), some (.int x3), some (.int x4), some (.int y6), some (.int 1), none]) dX5_seek_49 (Nat.le_of_ble_eq_true rfl) rfl rfl ?_
    refine r_iconst (x := 0) dX5_seek_51 rfl ?_
    refine r_istore (lv' := [some (.ref (G.2.2.2 (41))), some (.ref (G.2.2.2 (35))), some (.int x2), some (.int x3), some (.int x4), some (.int y6), some (.int 1), some (.int 0)]) dX5_seek_52 (Nat.le_of_ble_eq_true rfl) rfl rfl ?_
    refine r_jB1 (j := 104) (lvj := fun M15 => [some (.ref (G.2.2.2 (41))), none, none, none, none, none, none, none]) (stj := fun M15 => []) (Mj := fun M15 => M15) (fun M15 => ?_) (fun hj104 => ?_)
    · refine r_aload_n dX5_seek_104 rfl ?_
      refine r_getf (v := .ref (G.2.2.2 (47))) dX5_seek_105 fX_41_4 kX5 (by decide) lkf_X5_15 rfl ?_
      refine r_aload_n dX5_seek_108 rfl ?_
      refine r_getf (v := .ref (G.2.2.2 (46))) dX5_seek_109 fX_41_3 kX5 (by decide) lkf_X5_9 rfl ?_
      refine c_OV rfl (inv_SN (mi := mi_X5_seek) (rest := []) (X11_copyInts_ok G aX_47p aX_46p M15) rfl (by decide) dX5_seek_112 lkm_X5_97 cal_X11_copyInts rfl (Nat.le_of_ble_eq_true rfl) rfl) (fun M16 => ?_)
      refine r_aload_n dX5_seek_115 rfl ?_
      refine r_getf (v := .int (M16.1 41 9)) dX5_seek_116 fX_41_9 kX5 (by decide) lkf_X5_101 rfl ?_
      exact r_iret (ty := .int) dX5_seek_119 rfl rfl rfl
    exact r_lk (X5_seek_L2_ok_35 G x2 x3 x4 y6 rfl hj104 zFU 1 0 M5) (And.intro rfl (And.intro rfl (And.intro rfl (And.intro rfl (And.intro rfl (And.intro rfl (And.intro rfl (And.intro rfl True.intro))))))))
  exact r_lk (X5_seek_L1_ok_35 G x2 x3 x4 rfl hj41 zFU 0 M2) (And.intro rfl (And.intro rfl (And.intro rfl (And.intro rfl (And.intro rfl (And.intro rfl True.intro))))))
set_option maxRecDepth 100000 in
set_option maxHeartbeats 4000000 in
theorem X5_seek_L2_ok_42 (G : Gh) (x2 : Int32) (x3 : Int32) (x4 : Int32) (y6 : Int32) {dn : Option (Mem) → Option (Option Value × Mem)} (hs : dn none = none) (hx : ∀ (M15 : Mem), Wr G mi_X5_seek dn 104 [some (.ref (G.2.2.2 (41))), none, none, none, none, none, none, none] [] M15 (some M15)) : ∀ (n : Nat) (c6 : Int32) (c7 : Int32) (M : Mem), Wr G mi_X5_seek dn 54 [some (.ref (G.2.2.2 (41))), some (.ref (G.2.2.2 (42))), some (.int x2), some (.int x3), some (.int x4), some (.int y6), some (.int c6), some (.int c7)] [] M (X5_seek_L2 42 x2 x3 x4 y6 n c6 c7 M) := by
  intro n
  induction n with
  | zero => intro c6 c7 M; exact r_none (by exact hs)
  | succ n ih =>
    intro c6 c7 M
    rw [X5_seek_L2]
    refine r_iload dX5_seek_54 rfl ?_
    refine r_sipush (x := 165) dX5_seek_56 rfl ?_
    refine r_icmp_ge (tgt := 104) dX5_seek_59 rfl (fun h7 => ?_) (fun h7 => ?_)
    · exact r_lk (hx M) (And.intro rfl True.intro)
    refine r_iload dX5_seek_62 rfl ?_
    refine r_if_eq (tgt := 104) dX5_seek_64 rfl (fun h8 => ?_) (fun h8 => ?_)
    · exact r_lk (hx M) (And.intro rfl True.intro)
    refine r_aload_n dX5_seek_67 rfl ?_
    refine r_aload_n dX5_seek_68 rfl ?_
    refine r_aload_n dX5_seek_69 rfl ?_
    refine r_iload_n dX5_seek_70 rfl ?_
    refine r_iload_n dX5_seek_71 rfl ?_
    refine r_iload dX5_seek_72 rfl ?_
    refine c_OIM (by exact hs) (inv_V (mi := mi_X5_seek) (b := 41) (rest := [.ref (G.2.2.2 (41))]) (X5_worthOf_ok_42 G x2 x3 x4 M) rfl (by decide) dX5_seek_74 lkm_X5_145 cal_X5_worthOf cX_41 rfl rfl (Nat.le_of_ble_eq_true rfl) rfl) (fun v9 M10 => ?_)
    refine r_aload_n dX5_seek_77 rfl ?_
    refine r_iload_n dX5_seek_78 rfl ?_
    refine c_OI (by exact hs) (inv_V (mi := mi_X5_seek) (b := 41) (rest := [.int v9, .ref (G.2.2.2 (41))]) (X5_hoursOf_ok G x2 M10) rfl (by decide) dX5_seek_79 lkm_X5_113 cal_X5_hoursOf cX_41 rfl rfl (Nat.le_of_ble_eq_true rfl) rfl) (fun v11 => ?_)
    refine c_OV (by exact hs) (inv_V (mi := mi_X5_seek) (b := 41) (rest := []) (X5_consider_ok G v9 v11 M10) rfl (by decide) dX5_seek_82 lkm_X5_116 cal_X5_consider cX_41 rfl rfl (Nat.le_of_ble_eq_true rfl) rfl) (fun M12 => ?_)
    refine r_aload_n dX5_seek_85 rfl ?_
    refine r_iload_n dX5_seek_86 rfl ?_
    refine r_aload_n dX5_seek_87 rfl ?_
    refine r_getf (v := .ref (G.2.2.2 (49))) dX5_seek_88 fX_41_6 kX5 (by decide) lkf_X5_21 rfl ?_
    refine r_iload dX5_seek_91 rfl ?_
    refine c_OZM (by exact hs) (inv_V (mi := mi_X5_seek) (b := 41) (rest := []) (X5_nextRow_ok G x2 aX_49p y6 M12) rfl (by decide) dX5_seek_93 lkm_X5_93 cal_X5_nextRow cX_41 rfl rfl (Nat.le_of_ble_eq_true rfl) rfl) (fun b13 M14 => ?_)
    refine r_istore (lv' := [some (.ref (G.2.2.2 (41))), some (.ref (G.2.2.2 (42))), some (.int x2), some (.int x3), some (.int x4), some (.int y6), some (.int (b2i (b13))), some (.int c7)]) dX5_seek_96 (Nat.le_of_ble_eq_true rfl) rfl rfl ?_
    refine r_iinc (y := c7 + 1) (lv' := [some (.ref (G.2.2.2 (41))), some (.ref (G.2.2.2 (42))), some (.int x2), some (.int x3), some (.int x4), some (.int y6), some (.int (b2i (b13))), some (.int (c7 + 1))]) dX5_seek_98 rfl rfl (Nat.le_of_ble_eq_true rfl) rfl rfl ?_
    refine r_goto (tgt := 54) dX5_seek_101 rfl ?_
    exact r_lk (ih (b2i (b13)) (c7 + 1) M14) (And.intro rfl (And.intro rfl (And.intro rfl (And.intro rfl (And.intro rfl (And.intro rfl (And.intro rfl (And.intro rfl True.intro))))))))
set_option maxRecDepth 100000 in
set_option maxHeartbeats 4000000 in
theorem X5_seek_L1_ok_42 (G : Gh) (x2 : Int32) (x3 : Int32) (x4 : Int32) {dn : Option (Mem) → Option (Option Value × Mem)} (hs : dn none = none) (hx : ∀ (M5 : Mem), Wr G mi_X5_seek dn 41 [some (.ref (G.2.2.2 (41))), some (.ref (G.2.2.2 (42))), some (.int x2), some (.int x3), some (.int x4), none, none, none] [] M5 (some M5)) : ∀ (n : Nat) (c5 : Int32) (M : Mem), Wr G mi_X5_seek dn 13 [some (.ref (G.2.2.2 (41))), some (.ref (G.2.2.2 (42))), some (.int x2), some (.int x3), some (.int x4), some (.int c5), none, none] [] M (X5_seek_L1 42 x2 n c5 M) := by
  intro n
  induction n with
  | zero => intro c5 M; exact r_none (by exact hs)
  | succ n ih =>
    intro c5 M
    rw [X5_seek_L1]
    refine r_iload dX5_seek_13 rfl ?_
    refine r_iconst (x := 3) dX5_seek_15 rfl ?_
    refine r_icmp_ge (tgt := 41) dX5_seek_16 rfl (fun h3 => ?_) (fun h3 => ?_)
    · exact r_lk (hx M) (And.intro rfl (And.intro rfl (And.intro rfl (And.intro rfl (And.intro rfl True.intro)))))
    refine r_aload_n dX5_seek_19 rfl ?_
    refine r_getf (v := .ref (G.2.2.2 (49))) dX5_seek_20 fX_41_6 kX5 (by decide) lkf_X5_21 rfl ?_
    refine r_iload dX5_seek_23 rfl ?_
    refine r_aload_n dX5_seek_25 rfl ?_
    refine r_iload_n dX5_seek_26 rfl ?_
    refine r_iload dX5_seek_27 rfl ?_
    refine c_I (inv_V (mi := mi_X5_seek) (b := 42) (rest := [.int c5, .ref (G.2.2.2 (49))]) (X9_purseOf_ok_42 G x2 c5 M) rfl (by decide) dX5_seek_29 lkm_X5_104 cal_X9_purseOf cX_42 rfl rfl (Nat.le_of_ble_eq_true rfl) rfl) ?_
    refine c_V (inv_SN (mi := mi_X5_seek) (rest := []) (X11_put_ok G aX_49p c5 (X9_purseOf 42 x2 c5 M) M) rfl (by decide) dX5_seek_32 lkm_X5_85 cal_X11_put rfl (Nat.le_of_ble_eq_true rfl) rfl) (fun M4 => ?_)
    refine r_iinc (y := c5 + 1) (lv' := [some (.ref (G.2.2.2 (41))), some (.ref (G.2.2.2 (42))), some (.int x2), some (.int x3), some (.int x4), some (.int (c5 + 1)), none, none]) dX5_seek_35 rfl rfl (Nat.le_of_ble_eq_true rfl) rfl rfl ?_
    refine r_goto (tgt := 13) dX5_seek_38 rfl ?_
    exact r_lk (ih (c5 + 1) M4) (And.intro rfl (And.intro rfl (And.intro rfl (And.intro rfl (And.intro rfl (And.intro rfl True.intro))))))
set_option maxRecDepth 100000 in
set_option maxHeartbeats 4000000 in
theorem X5_seek_ok_42 (G : Gh) (x2 : Int32) (x3 : Int32) (x4 : Int32) (M : Mem) : Mt G mi_X5_seek [.ref (G.2.2.2 (41)), .ref (G.2.2.2 (42)), .int x2, .int x3, .int x4] M ((dO dIM) (X5_seek 42 x2 x3 x4 M)) := by
  refine Mt_of (lv := [some (.ref (G.2.2.2 (41))), some (.ref (G.2.2.2 (42))), some (.int x2), some (.int x3), some (.int x4)]) (by decide) rfl (Nat.le_of_ble_eq_true rfl) rfl ?_
  refine r_le (lv' := [some (.ref (G.2.2.2 (41))), some (.ref (G.2.2.2 (42))), some (.int x2), some (.int x3), some (.int x4), none, none, none]) (And.intro rfl (And.intro rfl (And.intro rfl (And.intro rfl (And.intro rfl True.intro))))) ?_
  unfold X5_seek
  refine r_aload_n dX5_seek_0 rfl ?_
  refine r_iload_n dX5_seek_1 rfl ?_
  refine c_OV rfl (inv_V (mi := mi_X5_seek) (b := 41) (rest := []) (X5_clearRow_ok G x2 M) rfl (by decide) dX5_seek_2 lkm_X5_141 cal_X5_clearRow cX_41 rfl rfl (Nat.le_of_ble_eq_true rfl) rfl) (fun M1 => ?_)
  refine r_aload_n dX5_seek_5 rfl ?_
  refine r_iconst (x := 0) dX5_seek_6 rfl ?_
  refine r_putI dX5_seek_7 fX_41_8 kX5 (by decide) rfl rfl lkf_X5_68 (fun _ => rfl) rfl rfl (fun M2 => ?_)
  refine r_iconst (x := 0) dX5_seek_10 rfl ?_
  refine r_istore (lv' := [some (.ref (G.2.2.2 (41))), some (.ref (G.2.2.2 (42))), some (.int x2), some (.int x3), some (.int x4), some (.int 0), none, none]) dX5_seek_11 (Nat.le_of_ble_eq_true rfl) rfl rfl ?_
  refine r_jB1 (j := 41) (lvj := fun M5 => [some (.ref (G.2.2.2 (41))), some (.ref (G.2.2.2 (42))), some (.int x2), some (.int x3), some (.int x4), none, none, none]) (stj := fun M5 => []) (Mj := fun M5 => M5) (fun M5 => ?_) (fun hj41 => ?_)
  · refine r_aload_n dX5_seek_41 rfl ?_
    refine r_iload_n dX5_seek_42 rfl ?_
    refine c_I (inv_V (mi := mi_X5_seek) (b := 42) (rest := []) (X9_leftOf_ok_42 G x2 M5) rfl (by decide) dX5_seek_43 lkm_X5_72 cal_X9_leftOf cX_42 rfl rfl (Nat.le_of_ble_eq_true rfl) rfl) ?_
    refine r_letI (fun y6 => ?_)
    refine r_istore (lv' := [some (.ref (G.2.2.2 (41))), some (.ref (G.2.2.2 (42))), some (.int x2), some (.int x3), some (.int x4), some (.int y6), none, none]) dX5_seek_46 (Nat.le_of_ble_eq_true rfl) rfl rfl ?_
    refine r_iconst (x := 1) dX5_seek_48 rfl ?_
    refine r_istore (lv' := [some (.ref (G.2.2.2 (41))), some (.ref (G.2.2.2 (42))), some (.int x2), some (.int x3), some (.int x4), some (.int y6), some (.int 1), none]) dX5_seek_49 (Nat.le_of_ble_eq_true rfl) rfl rfl ?_
    refine r_iconst (x := 0) dX5_seek_51 rfl ?_
    refine r_istore (lv' := [some (.ref (G.2.2.2 (41))), some (.ref (G.2.2.2 (42))), some (.int x2), some (.int x3), some (.int x4), some (.int y6), some (.int 1), some (.int 0)]) dX5_seek_52 (Nat.le_of_ble_eq_true rfl) rfl rfl ?_
    refine r_jB1 (j := 104) (lvj := fun M15 => [some (.ref (G.2.2.2 (41))), none, none, none, none, none, none, none]) (stj := fun M15 => []) (Mj := fun M15 => M15) (fun M15 => ?_) (fun hj104 => ?_)
    · refine r_aload_n dX5_seek_104 rfl ?_
      refine r_getf (v := .ref (G.2.2.2 (47))) dX5_seek_105 fX_41_4 kX5 (by decide) lkf_X5_15 rfl ?_
      refine r_aload_n dX5_seek_108 rfl ?_
      refine r_getf (v := .ref (G.2.2.2 (46))) dX5_seek_109 fX_41_3 kX5 (by decide) lkf_X5_9 rfl ?_
      refine c_OV rfl (inv_SN (mi := mi_X5_seek) (rest := []) (X11_copyInts_ok G aX_47p aX_46p M15) rfl (by decide) dX5_seek_112 lkm_X5_97 cal_X11_copyInts rfl (Nat.le_of_ble_eq_true rfl) rfl) (fun M16 => ?_)
      refine r_aload_n dX5_seek_115 rfl ?_
      refine r_getf (v := .int (M16.1 41 9)) dX5_seek_116 fX_41_9 kX5 (by decide) lkf_X5_101 rfl ?_
      exact r_iret (ty := .int) dX5_seek_119 rfl rfl rfl
    exact r_lk (X5_seek_L2_ok_42 G x2 x3 x4 y6 rfl hj104 zFU 1 0 M5) (And.intro rfl (And.intro rfl (And.intro rfl (And.intro rfl (And.intro rfl (And.intro rfl (And.intro rfl (And.intro rfl True.intro))))))))
  exact r_lk (X5_seek_L1_ok_42 G x2 x3 x4 rfl hj41 zFU 0 M2) (And.intro rfl (And.intro rfl (And.intro rfl (And.intro rfl (And.intro rfl (And.intro rfl True.intro))))))

theorem dX5_findBest_0 : decode cX5_findBest 0 = .ok (.aload_n 0, 1) := by decide +kernel
theorem dX5_findBest_1 : decode cX5_findBest 1 = .ok (.invokevirtual 43, 3) := by decide +kernel
theorem dX5_findBest_4 : decode cX5_findBest 4 = .ok (.aload_n 0, 1) := by decide +kernel
theorem dX5_findBest_5 : decode cX5_findBest 5 = .ok (.aload_n 0, 1) := by decide +kernel
theorem dX5_findBest_6 : decode cX5_findBest 6 = .ok (.getfield 31, 3) := by decide +kernel
theorem dX5_findBest_9 : decode cX5_findBest 9 = .ok (.iload_n 1, 1) := by decide +kernel
theorem dX5_findBest_10 : decode cX5_findBest 10 = .ok (.iconst 0, 1) := by decide +kernel
theorem dX5_findBest_11 : decode cX5_findBest 11 = .ok (.iconst 0, 1) := by decide +kernel
theorem dX5_findBest_12 : decode cX5_findBest 12 = .ok (.invokevirtual 46, 3) := by decide +kernel
theorem dX5_findBest_15 : decode cX5_findBest 15 = .ok (.ireturn, 1) := by decide +kernel
abbrev mi_X5_findBest : MI := (zTX, RX5, yX5_findBest, cX5_findBest, 2, (some .int), 13)
theorem cal_X5_findBest : zCalV mi_X5_findBest 1 := ⟨⟨zTB_i5 9 (by decide +kernel), zTB_i5 7 (by decide +kernel), zTB_i5 8 (by decide +kernel), zTB_i1 10 (by decide +kernel)⟩, ⟨by decide, by decide, by decide +kernel⟩, by decide⟩
noncomputable def X5_findBest (x1 : Int32) (M : Mem) : Option (Int32 × Mem) :=
  bo_ (X5_clearRows M) fun M1 =>
  bp_ (X5_seek 35 x1 0 0 M1) fun v2 M3 =>
  some (v2, M3)
set_option maxRecDepth 100000 in
set_option maxHeartbeats 4000000 in
theorem X5_findBest_ok (G : Gh) (x1 : Int32) (M : Mem) : Mt G mi_X5_findBest [.ref (G.2.2.2 (41)), .int x1] M ((dO dIM) (X5_findBest x1 M)) := by
  refine Mt_of (lv := [some (.ref (G.2.2.2 (41))), some (.int x1)]) (by decide) rfl (Nat.le_of_ble_eq_true rfl) rfl ?_
  unfold X5_findBest
  refine r_aload_n dX5_findBest_0 rfl ?_
  refine c_OV rfl (inv_V (mi := mi_X5_findBest) (b := 41) (rest := []) (X5_clearRows_ok G M) rfl (by decide) dX5_findBest_1 lkm_X5_43 cal_X5_clearRows cX_41 rfl rfl (Nat.le_of_ble_eq_true rfl) rfl) (fun M1 => ?_)
  refine r_aload_n dX5_findBest_4 rfl ?_
  refine r_aload_n dX5_findBest_5 rfl ?_
  refine r_getf (v := .ref (G.2.2.2 (35))) dX5_findBest_6 fX_41_1 kX5 (by decide) lkf_X5_31 rfl ?_
  refine r_iload_n dX5_findBest_9 rfl ?_
  refine r_iconst (x := 0) dX5_findBest_10 rfl ?_
  refine r_iconst (x := 0) dX5_findBest_11 rfl ?_
  refine c_OIM rfl (inv_V (mi := mi_X5_findBest) (b := 41) (rest := []) (X5_seek_ok_35 G x1 0 0 M1) rfl (by decide) dX5_findBest_12 lkm_X5_46 cal_X5_seek cX_41 rfl rfl (Nat.le_of_ble_eq_true rfl) rfl) (fun v2 M3 => ?_)
  exact r_iret (ty := .int) dX5_findBest_15 rfl rfl rfl

theorem dX7_lay_0 : decode cX7_lay 0 = .ok (.aload_n 0, 1) := by decide +kernel
theorem dX7_lay_1 : decode cX7_lay 1 = .ok (.getfield 15, 3) := by decide +kernel
theorem dX7_lay_4 : decode cX7_lay 4 = .ok (.ifCond .lt 35, 3) := by decide +kernel
theorem dX7_lay_7 : decode cX7_lay 7 = .ok (.aload_n 0, 1) := by decide +kernel
theorem dX7_lay_8 : decode cX7_lay 8 = .ok (.getfield 15, 3) := by decide +kernel
theorem dX7_lay_11 : decode cX7_lay 11 = .ok (.aload_n 0, 1) := by decide +kernel
theorem dX7_lay_12 : decode cX7_lay 12 = .ok (.getfield 9, 3) := by decide +kernel
theorem dX7_lay_15 : decode cX7_lay 15 = .ok (.arraylength, 1) := by decide +kernel
theorem dX7_lay_16 : decode cX7_lay 16 = .ok (.if_icmp .ge 23, 3) := by decide +kernel
theorem dX7_lay_19 : decode cX7_lay 19 = .ok (.aload_n 0, 1) := by decide +kernel
theorem dX7_lay_20 : decode cX7_lay 20 = .ok (.getfield 9, 3) := by decide +kernel
theorem dX7_lay_23 : decode cX7_lay 23 = .ok (.aload_n 0, 1) := by decide +kernel
theorem dX7_lay_24 : decode cX7_lay 24 = .ok (.getfield 15, 3) := by decide +kernel
theorem dX7_lay_27 : decode cX7_lay 27 = .ok (.iload_n 1, 1) := by decide +kernel
theorem dX7_lay_28 : decode cX7_lay 28 = .ok (.iastore, 1) := by decide +kernel
theorem dX7_lay_29 : decode cX7_lay 29 = .ok (.aload_n 0, 1) := by decide +kernel
theorem dX7_lay_30 : decode cX7_lay 30 = .ok (.dup, 1) := by decide +kernel
theorem dX7_lay_31 : decode cX7_lay 31 = .ok (.getfield 15, 3) := by decide +kernel
theorem dX7_lay_34 : decode cX7_lay 34 = .ok (.iconst 1, 1) := by decide +kernel
theorem dX7_lay_35 : decode cX7_lay 35 = .ok (.iadd, 1) := by decide +kernel
theorem dX7_lay_36 : decode cX7_lay 36 = .ok (.putfield 15, 3) := by decide +kernel
theorem dX7_lay_39 : decode cX7_lay 39 = .ok (.return_, 1) := by decide +kernel
abbrev mi_X7_lay : MI := (zTX, RX7, yX7_lay, cX7_lay, 2, none, 2)
theorem cal_X7_lay : zCalV mi_X7_lay 1 := ⟨⟨zTB_i5 56 (by decide +kernel), zTB_i5 54 (by decide +kernel), zTB_i5 55 (by decide +kernel), zTB_i1 11 (by decide +kernel)⟩, ⟨by decide, by decide, by decide +kernel⟩, by decide⟩
noncomputable def X7_lay (x1 : Int32) (M : Mem) : Mem :=
  if (M.1 51 1) < 0 then
    M
  else
  if (6) ≤ (M.1 51 1) then
    M
  else
  lt_ (uI M 52 ((M.1 51 1).toNatClampNeg) x1) fun M3 =>
  lt_ (uI M3 51 1 ((M3.1 51 1) + 1)) fun M4 =>
  M4
set_option maxRecDepth 100000 in
set_option maxHeartbeats 4000000 in
theorem X7_lay_ok (G : Gh) (x1 : Int32) (M : Mem) : Mt G mi_X7_lay [.ref (G.2.2.2 (51)), .int x1] M (dV (X7_lay x1 M)) := by
  refine Mt_of (lv := [some (.ref (G.2.2.2 (51))), some (.int x1)]) (by decide) rfl (Nat.le_of_ble_eq_true rfl) rfl ?_
  unfold X7_lay
  refine r_aload_n dX7_lay_0 rfl ?_
  refine r_getf (v := .int (M.1 51 1)) dX7_lay_1 fX_51_1 kX7 (by decide) lkf_X7_15 rfl ?_
  refine r_if_lt (tgt := 39) dX7_lay_4 rfl (fun h1 => ?_) (fun h1 => ?_)
  · exact r_vret dX7_lay_39 rfl rfl
  refine r_aload_n dX7_lay_7 rfl ?_
  refine r_getf (v := .int (M.1 51 1)) dX7_lay_8 fX_51_1 kX7 (by decide) lkf_X7_15 rfl ?_
  refine r_aload_n dX7_lay_11 rfl ?_
  refine r_getf (v := .ref (G.2.2.2 (52))) dX7_lay_12 fX_51_0 kX7 (by decide) lkf_X7_9 rfl ?_
  refine r_alen (v := 6) dX7_lay_15 aX_52 (by decide) rfl ?_
  refine r_icmp_ge (tgt := 39) dX7_lay_16 rfl (fun h2 => ?_) (fun h2 => ?_)
  · exact r_vret dX7_lay_39 rfl rfl
  refine r_aload_n dX7_lay_19 rfl ?_
  refine r_getf (v := .ref (G.2.2.2 (52))) dX7_lay_20 fX_51_0 kX7 (by decide) lkf_X7_9 rfl ?_
  refine r_aload_n dX7_lay_23 rfl ?_
  refine r_getf (v := .int (M.1 51 1)) dX7_lay_24 fX_51_1 kX7 (by decide) lkf_X7_15 rfl ?_
  refine r_iload_n dX7_lay_27 rfl ?_
  refine r_iast dX7_lay_28 aX_52 (vin h1 h2 (by decide)) rfl (fun M3 => ?_)
  refine r_aload_n dX7_lay_29 rfl ?_
  refine r_dup dX7_lay_30 rfl ?_
  refine r_getf (v := .int (M3.1 51 1)) dX7_lay_31 fX_51_1 kX7 (by decide) lkf_X7_15 rfl ?_
  refine r_iconst (x := 1) dX7_lay_34 rfl ?_
  refine r_iadd dX7_lay_35 ?_
  refine r_putI dX7_lay_36 fX_51_1 kX7 (by decide) rfl rfl lkf_X7_15 (fun _ => rfl) rfl rfl (fun M4 => ?_)
  exact r_vret dX7_lay_39 rfl rfl

theorem dX7_layRow_0 : decode cX7_layRow 0 = .ok (.iconst 0, 1) := by decide +kernel
theorem dX7_layRow_1 : decode cX7_layRow 1 = .ok (.istore 4, 2) := by decide +kernel
theorem dX7_layRow_3 : decode cX7_layRow 3 = .ok (.iload 4, 2) := by decide +kernel
theorem dX7_layRow_5 : decode cX7_layRow 5 = .ok (.iload_n 3, 1) := by decide +kernel
theorem dX7_layRow_6 : decode cX7_layRow 6 = .ok (.if_icmp .ge 23, 3) := by decide +kernel
theorem dX7_layRow_9 : decode cX7_layRow 9 = .ok (.aload_n 0, 1) := by decide +kernel
theorem dX7_layRow_10 : decode cX7_layRow 10 = .ok (.aload_n 1, 1) := by decide +kernel
theorem dX7_layRow_11 : decode cX7_layRow 11 = .ok (.iload_n 2, 1) := by decide +kernel
theorem dX7_layRow_12 : decode cX7_layRow 12 = .ok (.iconst 3, 1) := by decide +kernel
theorem dX7_layRow_13 : decode cX7_layRow 13 = .ok (.imul, 1) := by decide +kernel
theorem dX7_layRow_14 : decode cX7_layRow 14 = .ok (.iload 4, 2) := by decide +kernel
theorem dX7_layRow_16 : decode cX7_layRow 16 = .ok (.iadd, 1) := by decide +kernel
theorem dX7_layRow_17 : decode cX7_layRow 17 = .ok (.invokestatic 19, 3) := by decide +kernel
theorem dX7_layRow_20 : decode cX7_layRow 20 = .ok (.invokevirtual 23, 3) := by decide +kernel
theorem dX7_layRow_23 : decode cX7_layRow 23 = .ok (.iinc 4 1, 3) := by decide +kernel
theorem dX7_layRow_26 : decode cX7_layRow 26 = .ok (.goto (-23), 3) := by decide +kernel
theorem dX7_layRow_29 : decode cX7_layRow 29 = .ok (.return_, 1) := by decide +kernel
abbrev mi_X7_layRow : MI := (zTX, RX7, yX7_layRow, cX7_layRow, 5, none, 3)
theorem cal_X7_layRow : zCalV mi_X7_layRow 3 := ⟨⟨zTB_i5 51 (by decide +kernel), zTB_i5 49 (by decide +kernel), zTB_i5 50 (by decide +kernel), zTB_i1 11 (by decide +kernel)⟩, ⟨by decide, by decide, by decide +kernel⟩, by decide⟩
noncomputable def X7_layRow_L1 (a1 : Nat) (x2 : Int32) (x3 : Int32) : Nat → Int32 → Mem → Option (Mem)
  | 0, _, _ => none
  | n + 1, c4, M =>
    if x3 ≤ c4 then
      some M
    else
    lt_ (X7_lay (X11_cell a1 ((x2 * 3) + c4) M) M) fun M2 =>
    X7_layRow_L1 a1 x2 x3 n (c4 + 1) M2
noncomputable def X7_layRow (a1 : Nat) (x2 : Int32) (x3 : Int32) (M : Mem) : Option (Mem) :=
  b1_ (α := Mem) (X7_layRow_L1 a1 x2 x3 zFU 0 M) fun M3 =>
  some M3
set_option maxRecDepth 100000 in
set_option maxHeartbeats 4000000 in
theorem X7_layRow_L1_ok (G : Gh) {a1 : Nat} (ha1 : zar zTX a1 = some (0, zlen zTX a1)) (x2 : Int32) (x3 : Int32) {dn : Option (Mem) → Option (Option Value × Mem)} (hs : dn none = none) (hx : ∀ (M3 : Mem), Wr G mi_X7_layRow dn 29 [none, none, none, none, none] [] M3 (some M3)) : ∀ (n : Nat) (c4 : Int32) (M : Mem), Wr G mi_X7_layRow dn 3 [some (.ref (G.2.2.2 (51))), some (.ref (G.2.2.2 (a1))), some (.int x2), some (.int x3), some (.int c4)] [] M (X7_layRow_L1 a1 x2 x3 n c4 M) := by
  intro n
  induction n with
  | zero => intro c4 M; exact r_none (by exact hs)
  | succ n ih =>
    intro c4 M
    rw [X7_layRow_L1]
    refine r_iload dX7_layRow_3 rfl ?_
    refine r_iload_n dX7_layRow_5 rfl ?_
    refine r_icmp_ge (tgt := 29) dX7_layRow_6 rfl (fun h1 => ?_) (fun h1 => ?_)
    · exact r_lk (hx M) True.intro
    refine r_aload_n dX7_layRow_9 rfl ?_
    refine r_aload_n dX7_layRow_10 rfl ?_
    refine r_iload_n dX7_layRow_11 rfl ?_
    refine r_iconst (x := 3) dX7_layRow_12 rfl ?_
    refine r_imul dX7_layRow_13 ?_
    refine r_iload dX7_layRow_14 rfl ?_
    refine r_iadd dX7_layRow_16 ?_
    refine c_I (inv_SN (mi := mi_X7_layRow) (rest := [.ref (G.2.2.2 (51))]) (X11_cell_ok G ha1 ((x2 * 3) + c4) M) rfl (by decide) dX7_layRow_17 lkm_X7_19 cal_X11_cell rfl (Nat.le_of_ble_eq_true rfl) rfl) ?_
    refine c_V (inv_V (mi := mi_X7_layRow) (b := 51) (rest := []) (X7_lay_ok G (X11_cell a1 ((x2 * 3) + c4) M) M) rfl (by decide) dX7_layRow_20 lkm_X7_23 cal_X7_lay cX_51 rfl rfl (Nat.le_of_ble_eq_true rfl) rfl) (fun M2 => ?_)
    refine r_iinc (y := c4 + 1) (lv' := [some (.ref (G.2.2.2 (51))), some (.ref (G.2.2.2 (a1))), some (.int x2), some (.int x3), some (.int (c4 + 1))]) dX7_layRow_23 rfl rfl (Nat.le_of_ble_eq_true rfl) rfl rfl ?_
    refine r_goto (tgt := 3) dX7_layRow_26 rfl ?_
    exact r_lk (ih (c4 + 1) M2) (And.intro rfl (And.intro rfl (And.intro rfl (And.intro rfl (And.intro rfl True.intro)))))
set_option maxRecDepth 100000 in
set_option maxHeartbeats 4000000 in
theorem X7_layRow_ok (G : Gh) {a1 : Nat} (ha1 : zar zTX a1 = some (0, zlen zTX a1)) (x2 : Int32) (x3 : Int32) (M : Mem) : Mt G mi_X7_layRow [.ref (G.2.2.2 (51)), .ref (G.2.2.2 (a1)), .int x2, .int x3] M ((dO dV) (X7_layRow a1 x2 x3 M)) := by
  refine Mt_of (lv := [some (.ref (G.2.2.2 (51))), some (.ref (G.2.2.2 (a1))), some (.int x2), some (.int x3)]) (by decide) rfl (Nat.le_of_ble_eq_true rfl) rfl ?_
  refine r_le (lv' := [some (.ref (G.2.2.2 (51))), some (.ref (G.2.2.2 (a1))), some (.int x2), some (.int x3), none]) (And.intro rfl (And.intro rfl (And.intro rfl (And.intro rfl True.intro)))) ?_
  unfold X7_layRow
  refine r_iconst (x := 0) dX7_layRow_0 rfl ?_
  refine r_istore (lv' := [some (.ref (G.2.2.2 (51))), some (.ref (G.2.2.2 (a1))), some (.int x2), some (.int x3), some (.int 0)]) dX7_layRow_1 (Nat.le_of_ble_eq_true rfl) rfl rfl ?_
  refine r_jB1 (j := 29) (lvj := fun M3 => [none, none, none, none, none]) (stj := fun M3 => []) (Mj := fun M3 => M3) (fun M3 => ?_) (fun hj29 => ?_)
  · exact r_vret dX7_layRow_29 rfl rfl
  exact r_lk (X7_layRow_L1_ok G ha1 x2 x3 rfl hj29 zFU 0 M) (And.intro rfl (And.intro rfl (And.intro rfl (And.intro rfl (And.intro rfl True.intro)))))

theorem dX11_best_0 : decode cX11_best 0 = .ok (.aload_n 0, 1) := by decide +kernel
theorem dX11_best_1 : decode cX11_best 1 = .ok (.getfield 62, 3) := by decide +kernel
theorem dX11_best_4 : decode cX11_best 4 = .ok (.invokevirtual 105, 3) := by decide +kernel
theorem dX11_best_7 : decode cX11_best 7 = .ok (.aload_n 0, 1) := by decide +kernel
theorem dX11_best_8 : decode cX11_best 8 = .ok (.getfield 28, 3) := by decide +kernel
theorem dX11_best_11 : decode cX11_best 11 = .ok (.iload_n 1, 1) := by decide +kernel
theorem dX11_best_12 : decode cX11_best 12 = .ok (.invokevirtual 119, 3) := by decide +kernel
theorem dX11_best_15 : decode cX11_best 15 = .ok (.ifCond .eq 12, 3) := by decide +kernel
theorem dX11_best_18 : decode cX11_best 18 = .ok (.iload_n 2, 1) := by decide +kernel
theorem dX11_best_19 : decode cX11_best 19 = .ok (.ifCond .lt 8, 3) := by decide +kernel
theorem dX11_best_22 : decode cX11_best 22 = .ok (.iload_n 2, 1) := by decide +kernel
theorem dX11_best_23 : decode cX11_best 23 = .ok (.iconst 1, 1) := by decide +kernel
theorem dX11_best_24 : decode cX11_best 24 = .ok (.if_icmp .le 6, 3) := by decide +kernel
theorem dX11_best_27 : decode cX11_best 27 = .ok (.ldc 123, 2) := by decide +kernel
theorem dX11_best_29 : decode cX11_best 29 = .ok (.ireturn, 1) := by decide +kernel
theorem dX11_best_30 : decode cX11_best 30 = .ok (.aload_n 0, 1) := by decide +kernel
theorem dX11_best_31 : decode cX11_best 31 = .ok (.getfield 55, 3) := by decide +kernel
theorem dX11_best_34 : decode cX11_best 34 = .ok (.iload_n 1, 1) := by decide +kernel
theorem dX11_best_35 : decode cX11_best 35 = .ok (.invokevirtual 198, 3) := by decide +kernel
theorem dX11_best_38 : decode cX11_best 38 = .ok (.istore_n 3, 1) := by decide +kernel
theorem dX11_best_39 : decode cX11_best 39 = .ok (.aload_n 0, 1) := by decide +kernel
theorem dX11_best_40 : decode cX11_best 40 = .ok (.getfield 62, 3) := by decide +kernel
theorem dX11_best_43 : decode cX11_best 43 = .ok (.aload_n 0, 1) := by decide +kernel
theorem dX11_best_44 : decode cX11_best 44 = .ok (.getfield 55, 3) := by decide +kernel
theorem dX11_best_47 : decode cX11_best 47 = .ok (.getfield 201, 3) := by decide +kernel
theorem dX11_best_50 : decode cX11_best 50 = .ok (.iload_n 1, 1) := by decide +kernel
theorem dX11_best_51 : decode cX11_best 51 = .ok (.aload_n 0, 1) := by decide +kernel
theorem dX11_best_52 : decode cX11_best 52 = .ok (.getfield 28, 3) := by decide +kernel
theorem dX11_best_55 : decode cX11_best 55 = .ok (.getfield 204, 3) := by decide +kernel
theorem dX11_best_58 : decode cX11_best 58 = .ok (.invokevirtual 207, 3) := by decide +kernel
theorem dX11_best_61 : decode cX11_best 61 = .ok (.iload_n 2, 1) := by decide +kernel
theorem dX11_best_62 : decode cX11_best 62 = .ok (.ifCond .ne 7, 3) := by decide +kernel
theorem dX11_best_65 : decode cX11_best 65 = .ok (.iload_n 3, 1) := by decide +kernel
theorem dX11_best_66 : decode cX11_best 66 = .ok (.goto 11, 3) := by decide +kernel
theorem dX11_best_69 : decode cX11_best 69 = .ok (.aload_n 0, 1) := by decide +kernel
theorem dX11_best_70 : decode cX11_best 70 = .ok (.getfield 55, 3) := by decide +kernel
theorem dX11_best_73 : decode cX11_best 73 = .ok (.iload_n 1, 1) := by decide +kernel
theorem dX11_best_74 : decode cX11_best 74 = .ok (.invokevirtual 211, 3) := by decide +kernel
theorem dX11_best_77 : decode cX11_best 77 = .ok (.ireturn, 1) := by decide +kernel
abbrev mi_X11_best : MI := (zTX, RX11, yX11_best, cX11_best, 4, (some .int), 14)
theorem cal_X11_best : zCalV mi_X11_best 2 := ⟨⟨zTB_i5 5 (by decide +kernel), zTB_i5 3 (by decide +kernel), zTB_i5 4 (by decide +kernel), zTB_i1 1 (by decide +kernel)⟩, ⟨by decide, by decide, by decide +kernel⟩, by decide⟩
noncomputable def X11_best (x1 : Int32) (x2 : Int32) (M : Mem) : Option (Int32 × Mem) :=
  lt_ (X7_clear M) fun M1 =>
  if (X3_hasMan 23 x1 M1) = true then
    if x2 < 0 then
      some ((-1000000), M1)
    else
    if x2 ≤ 1 then
      bp_ (X5_findBest x1 M1) fun v5 M6 =>
      bo_ (X7_layRow 46 x1 (M6.1 23 1) M6) fun M7 =>
      if x2 = 0 then
        some (v5, M7)
      else
      bo_ (X5_hoursOf x1 M7) fun v9 =>
      some (v9, M7)
    else
    some ((-1000000), M1)
  else
  some ((-1000000), M1)
set_option maxRecDepth 100000 in
set_option maxHeartbeats 4000000 in
theorem X11_best_ok (G : Gh) (x1 : Int32) (x2 : Int32) (M : Mem) : Mt G mi_X11_best [.ref (G.2.2.2 (0)), .int x1, .int x2] M ((dO dIM) (X11_best x1 x2 M)) := by
  refine Mt_of (lv := [some (.ref (G.2.2.2 (0))), some (.int x1), some (.int x2)]) (by decide) rfl (Nat.le_of_ble_eq_true rfl) rfl ?_
  refine r_le (lv' := [some (.ref (G.2.2.2 (0))), some (.int x1), some (.int x2), none]) (And.intro rfl (And.intro rfl (And.intro rfl True.intro))) ?_
  unfold X11_best
  refine r_aload_n dX11_best_0 rfl ?_
  refine r_getf (v := .ref (G.2.2.2 (51))) dX11_best_1 fX_0_6 kX11 (by decide) lkf_X11_62 rfl ?_
  refine c_V (inv_V (mi := mi_X11_best) (b := 51) (rest := []) (X7_clear_ok G M) rfl (by decide) dX11_best_4 lkm_X11_105 cal_X7_clear cX_51 rfl rfl (Nat.le_of_ble_eq_true rfl) rfl) (fun M1 => ?_)
  refine r_aload_n dX11_best_7 rfl ?_
  refine r_getf (v := .ref (G.2.2.2 (23))) dX11_best_8 fX_0_2 kX11 (by decide) lkf_X11_28 rfl ?_
  refine r_iload_n dX11_best_11 rfl ?_
  refine c_Z (inv_V (mi := mi_X11_best) (b := 23) (rest := []) (X3_hasMan_ok_23 G x1 M1) rfl (by decide) dX11_best_12 lkm_X11_119 cal_X3_hasMan cX_23 rfl rfl (Nat.le_of_ble_eq_true rfl) rfl) ?_
  refine r_ifz_eq (tgt := 27) dX11_best_15 rfl (fun h2 => ?_) (fun h2 => ?_)
  · refine r_iload_n dX11_best_18 rfl ?_
    refine r_if_lt (tgt := 27) dX11_best_19 rfl (fun h3 => ?_) (fun h3 => ?_)
    · refine r_ldcI (x := (-1000000)) dX11_best_27 lkc_X11_123 ?_
      exact r_iret (ty := .int) dX11_best_29 rfl rfl rfl
    refine r_iload_n dX11_best_22 rfl ?_
    refine r_iconst (x := 1) dX11_best_23 rfl ?_
    refine r_icmp_le (tgt := 30) dX11_best_24 rfl (fun h4 => ?_) (fun h4 => ?_)
    · refine r_aload_n dX11_best_30 rfl ?_
      refine r_getf (v := .ref (G.2.2.2 (41))) dX11_best_31 fX_0_5 kX11 (by decide) lkf_X11_55 rfl ?_
      refine r_iload_n dX11_best_34 rfl ?_
      refine c_OIM rfl (inv_V (mi := mi_X11_best) (b := 41) (rest := []) (X5_findBest_ok G x1 M1) rfl (by decide) dX11_best_35 lkm_X11_198 cal_X5_findBest cX_41 rfl rfl (Nat.le_of_ble_eq_true rfl) rfl) (fun v5 M6 => ?_)
      refine r_istore_n (lv' := [some (.ref (G.2.2.2 (0))), some (.int x1), some (.int x2), some (.int v5)]) dX11_best_38 (Nat.le_of_ble_eq_true rfl) rfl rfl ?_
      refine r_aload_n dX11_best_39 rfl ?_
      refine r_getf (v := .ref (G.2.2.2 (51))) dX11_best_40 fX_0_6 kX11 (by decide) lkf_X11_62 rfl ?_
      refine r_aload_n dX11_best_43 rfl ?_
      refine r_getf (v := .ref (G.2.2.2 (41))) dX11_best_44 fX_0_5 kX11 (by decide) lkf_X11_55 rfl ?_
      refine r_getf (v := .ref (G.2.2.2 (46))) dX11_best_47 fX_41_3 kX5 (by decide) lkf_X11_201 rfl ?_
      refine r_iload_n dX11_best_50 rfl ?_
      refine r_aload_n dX11_best_51 rfl ?_
      refine r_getf (v := .ref (G.2.2.2 (23))) dX11_best_52 fX_0_2 kX11 (by decide) lkf_X11_28 rfl ?_
      refine r_getf (v := .int (M6.1 23 1)) dX11_best_55 fX_23_1 kX3 (by decide) lkf_X11_204 rfl ?_
      refine c_OV rfl (inv_V (mi := mi_X11_best) (b := 51) (rest := []) (X7_layRow_ok G aX_46p x1 (M6.1 23 1) M6) rfl (by decide) dX11_best_58 lkm_X11_207 cal_X7_layRow cX_51 rfl rfl (Nat.le_of_ble_eq_true rfl) rfl) (fun M7 => ?_)
      refine r_iload_n dX11_best_61 rfl ?_
      refine r_if_ne (tgt := 69) dX11_best_62 rfl (fun h8 => ?_) (fun h8 => ?_)
      · refine r_iload_n dX11_best_65 rfl ?_
        refine r_goto (tgt := 77) dX11_best_66 rfl ?_
        exact r_iret (ty := .int) dX11_best_77 rfl rfl rfl
      refine r_aload_n dX11_best_69 rfl ?_
      refine r_getf (v := .ref (G.2.2.2 (41))) dX11_best_70 fX_0_5 kX11 (by decide) lkf_X11_55 rfl ?_
      refine r_iload_n dX11_best_73 rfl ?_
      refine c_OI rfl (inv_V (mi := mi_X11_best) (b := 41) (rest := []) (X5_hoursOf_ok G x1 M7) rfl (by decide) dX11_best_74 lkm_X11_211 cal_X5_hoursOf cX_41 rfl rfl (Nat.le_of_ble_eq_true rfl) rfl) (fun v9 => ?_)
      exact r_iret (ty := .int) dX11_best_77 rfl rfl rfl
    refine r_ldcI (x := (-1000000)) dX11_best_27 lkc_X11_123 ?_
    exact r_iret (ty := .int) dX11_best_29 rfl rfl rfl
  refine r_ldcI (x := (-1000000)) dX11_best_27 lkc_X11_123 ?_
  exact r_iret (ty := .int) dX11_best_29 rfl rfl rfl

theorem dX5_growthOfOthers_0 : decode cX5_growthOfOthers 0 = .ok (.aload_n 0, 1) := by decide +kernel
theorem dX5_growthOfOthers_1 : decode cX5_growthOfOthers 1 = .ok (.aload_n 0, 1) := by decide +kernel
theorem dX5_growthOfOthers_2 : decode cX5_growthOfOthers 2 = .ok (.getfield 31, 3) := by decide +kernel
theorem dX5_growthOfOthers_5 : decode cX5_growthOfOthers 5 = .ok (.invokevirtual 54, 3) := by decide +kernel
theorem dX5_growthOfOthers_8 : decode cX5_growthOfOthers 8 = .ok (.aload_n 0, 1) := by decide +kernel
theorem dX5_growthOfOthers_9 : decode cX5_growthOfOthers 9 = .ok (.getfield 31, 3) := by decide +kernel
theorem dX5_growthOfOthers_12 : decode cX5_growthOfOthers 12 = .ok (.aload_n 0, 1) := by decide +kernel
theorem dX5_growthOfOthers_13 : decode cX5_growthOfOthers 13 = .ok (.getfield 9, 3) := by decide +kernel
theorem dX5_growthOfOthers_16 : decode cX5_growthOfOthers 16 = .ok (.iload_n 1, 1) := by decide +kernel
theorem dX5_growthOfOthers_17 : decode cX5_growthOfOthers 17 = .ok (.invokevirtual 58, 3) := by decide +kernel
theorem dX5_growthOfOthers_20 : decode cX5_growthOfOthers 20 = .ok (.isub, 1) := by decide +kernel
theorem dX5_growthOfOthers_21 : decode cX5_growthOfOthers 21 = .ok (.ireturn, 1) := by decide +kernel
abbrev mi_X5_growthOfOthers : MI := (zTX, RX5, yX5_growthOfOthers, cX5_growthOfOthers, 2, (some .int), 11)
theorem cal_X5_growthOfOthers : zCalV mi_X5_growthOfOthers 1 := ⟨⟨zTB_i5 69 (by decide +kernel), zTB_i5 68 (by decide +kernel), zTB_i0 34 (by decide +kernel), zTB_i1 10 (by decide +kernel)⟩, ⟨by decide, by decide, by decide +kernel⟩, by decide⟩
noncomputable def X5_growthOfOthers (x1 : Int32) (M : Mem) : Option (Int32 × Mem) :=
  bp_ (X5_growthOfAll 35 M) fun v1 M2 =>
  bp_ (X9_growthWith 35 46 x1 M2) fun v3 M4 =>
  some (v1 - v3, M4)
set_option maxRecDepth 100000 in
set_option maxHeartbeats 4000000 in
theorem X5_growthOfOthers_ok (G : Gh) (x1 : Int32) (M : Mem) : Mt G mi_X5_growthOfOthers [.ref (G.2.2.2 (41)), .int x1] M ((dO dIM) (X5_growthOfOthers x1 M)) := by
  refine Mt_of (lv := [some (.ref (G.2.2.2 (41))), some (.int x1)]) (by decide) rfl (Nat.le_of_ble_eq_true rfl) rfl ?_
  unfold X5_growthOfOthers
  refine r_aload_n dX5_growthOfOthers_0 rfl ?_
  refine r_aload_n dX5_growthOfOthers_1 rfl ?_
  refine r_getf (v := .ref (G.2.2.2 (35))) dX5_growthOfOthers_2 fX_41_1 kX5 (by decide) lkf_X5_31 rfl ?_
  refine c_OIM rfl (inv_V (mi := mi_X5_growthOfOthers) (b := 41) (rest := []) (X5_growthOfAll_ok_35 G M) rfl (by decide) dX5_growthOfOthers_5 lkm_X5_54 cal_X5_growthOfAll cX_41 rfl rfl (Nat.le_of_ble_eq_true rfl) rfl) (fun v1 M2 => ?_)
  refine r_aload_n dX5_growthOfOthers_8 rfl ?_
  refine r_getf (v := .ref (G.2.2.2 (35))) dX5_growthOfOthers_9 fX_41_1 kX5 (by decide) lkf_X5_31 rfl ?_
  refine r_aload_n dX5_growthOfOthers_12 rfl ?_
  refine r_getf (v := .ref (G.2.2.2 (46))) dX5_growthOfOthers_13 fX_41_3 kX5 (by decide) lkf_X5_9 rfl ?_
  refine r_iload_n dX5_growthOfOthers_16 rfl ?_
  refine c_OIM rfl (inv_V (mi := mi_X5_growthOfOthers) (b := 35) (rest := [.int v1]) (X9_growthWith_ok_35 G aX_46p x1 M2) rfl (by decide) dX5_growthOfOthers_17 lkm_X5_58 cal_X9_growthWith cX_35 rfl rfl (Nat.le_of_ble_eq_true rfl) rfl) (fun v3 M4 => ?_)
  refine r_isub dX5_growthOfOthers_20 ?_
  exact r_iret (ty := .int) dX5_growthOfOthers_21 rfl rfl rfl

theorem dX5_leakOfBest_0 : decode cX5_leakOfBest 0 = .ok (.aload_n 0, 1) := by decide +kernel
theorem dX5_leakOfBest_1 : decode cX5_leakOfBest 1 = .ok (.invokevirtual 43, 3) := by decide +kernel
theorem dX5_leakOfBest_4 : decode cX5_leakOfBest 4 = .ok (.aload_n 0, 1) := by decide +kernel
theorem dX5_leakOfBest_5 : decode cX5_leakOfBest 5 = .ok (.iload_n 1, 1) := by decide +kernel
theorem dX5_leakOfBest_6 : decode cX5_leakOfBest 6 = .ok (.invokevirtual 50, 3) := by decide +kernel
theorem dX5_leakOfBest_9 : decode cX5_leakOfBest 9 = .ok (.istore_n 2, 1) := by decide +kernel
theorem dX5_leakOfBest_10 : decode cX5_leakOfBest 10 = .ok (.aload_n 0, 1) := by decide +kernel
theorem dX5_leakOfBest_11 : decode cX5_leakOfBest 11 = .ok (.aload_n 0, 1) := by decide +kernel
theorem dX5_leakOfBest_12 : decode cX5_leakOfBest 12 = .ok (.getfield 31, 3) := by decide +kernel
theorem dX5_leakOfBest_15 : decode cX5_leakOfBest 15 = .ok (.iload_n 1, 1) := by decide +kernel
theorem dX5_leakOfBest_16 : decode cX5_leakOfBest 16 = .ok (.iconst 0, 1) := by decide +kernel
theorem dX5_leakOfBest_17 : decode cX5_leakOfBest 17 = .ok (.iconst 0, 1) := by decide +kernel
theorem dX5_leakOfBest_18 : decode cX5_leakOfBest 18 = .ok (.invokevirtual 46, 3) := by decide +kernel
theorem dX5_leakOfBest_21 : decode cX5_leakOfBest 21 = .ok (.pop, 1) := by decide +kernel
theorem dX5_leakOfBest_22 : decode cX5_leakOfBest 22 = .ok (.aload_n 0, 1) := by decide +kernel
theorem dX5_leakOfBest_23 : decode cX5_leakOfBest 23 = .ok (.iload_n 1, 1) := by decide +kernel
theorem dX5_leakOfBest_24 : decode cX5_leakOfBest 24 = .ok (.invokevirtual 50, 3) := by decide +kernel
theorem dX5_leakOfBest_27 : decode cX5_leakOfBest 27 = .ok (.iload_n 2, 1) := by decide +kernel
theorem dX5_leakOfBest_28 : decode cX5_leakOfBest 28 = .ok (.isub, 1) := by decide +kernel
theorem dX5_leakOfBest_29 : decode cX5_leakOfBest 29 = .ok (.ireturn, 1) := by decide +kernel
abbrev mi_X5_leakOfBest : MI := (zTX, RX5, yX5_leakOfBest, cX5_leakOfBest, 3, (some .int), 13)
theorem cal_X5_leakOfBest : zCalV mi_X5_leakOfBest 1 := ⟨⟨zTB_i5 65 (by decide +kernel), zTB_i5 63 (by decide +kernel), zTB_i5 64 (by decide +kernel), zTB_i1 10 (by decide +kernel)⟩, ⟨by decide, by decide, by decide +kernel⟩, by decide⟩
noncomputable def X5_leakOfBest (x1 : Int32) (M : Mem) : Option (Int32 × Mem) :=
  bo_ (X5_clearRows M) fun M1 =>
  bp_ (X5_growthOfOthers x1 M1) fun v2 M3 =>
  bp_ (X5_seek 35 x1 0 0 M3) fun v4 M5 =>
  bp_ (X5_growthOfOthers x1 M5) fun v6 M7 =>
  some (v6 - v2, M7)
set_option maxRecDepth 100000 in
set_option maxHeartbeats 4000000 in
theorem X5_leakOfBest_ok (G : Gh) (x1 : Int32) (M : Mem) : Mt G mi_X5_leakOfBest [.ref (G.2.2.2 (41)), .int x1] M ((dO dIM) (X5_leakOfBest x1 M)) := by
  refine Mt_of (lv := [some (.ref (G.2.2.2 (41))), some (.int x1)]) (by decide) rfl (Nat.le_of_ble_eq_true rfl) rfl ?_
  refine r_le (lv' := [some (.ref (G.2.2.2 (41))), some (.int x1), none]) (And.intro rfl (And.intro rfl True.intro)) ?_
  unfold X5_leakOfBest
  refine r_aload_n dX5_leakOfBest_0 rfl ?_
  refine c_OV rfl (inv_V (mi := mi_X5_leakOfBest) (b := 41) (rest := []) (X5_clearRows_ok G M) rfl (by decide) dX5_leakOfBest_1 lkm_X5_43 cal_X5_clearRows cX_41 rfl rfl (Nat.le_of_ble_eq_true rfl) rfl) (fun M1 => ?_)
  refine r_aload_n dX5_leakOfBest_4 rfl ?_
  refine r_iload_n dX5_leakOfBest_5 rfl ?_
  refine c_OIM rfl (inv_V (mi := mi_X5_leakOfBest) (b := 41) (rest := []) (X5_growthOfOthers_ok G x1 M1) rfl (by decide) dX5_leakOfBest_6 lkm_X5_50 cal_X5_growthOfOthers cX_41 rfl rfl (Nat.le_of_ble_eq_true rfl) rfl) (fun v2 M3 => ?_)
  refine r_istore_n (lv' := [some (.ref (G.2.2.2 (41))), some (.int x1), some (.int v2)]) dX5_leakOfBest_9 (Nat.le_of_ble_eq_true rfl) rfl rfl ?_
  refine r_aload_n dX5_leakOfBest_10 rfl ?_
  refine r_aload_n dX5_leakOfBest_11 rfl ?_
  refine r_getf (v := .ref (G.2.2.2 (35))) dX5_leakOfBest_12 fX_41_1 kX5 (by decide) lkf_X5_31 rfl ?_
  refine r_iload_n dX5_leakOfBest_15 rfl ?_
  refine r_iconst (x := 0) dX5_leakOfBest_16 rfl ?_
  refine r_iconst (x := 0) dX5_leakOfBest_17 rfl ?_
  refine c_OIM rfl (inv_V (mi := mi_X5_leakOfBest) (b := 41) (rest := []) (X5_seek_ok_35 G x1 0 0 M3) rfl (by decide) dX5_leakOfBest_18 lkm_X5_46 cal_X5_seek cX_41 rfl rfl (Nat.le_of_ble_eq_true rfl) rfl) (fun v4 M5 => ?_)
  refine r_pop dX5_leakOfBest_21 rfl ?_
  refine r_aload_n dX5_leakOfBest_22 rfl ?_
  refine r_iload_n dX5_leakOfBest_23 rfl ?_
  refine c_OIM rfl (inv_V (mi := mi_X5_leakOfBest) (b := 41) (rest := []) (X5_growthOfOthers_ok G x1 M5) rfl (by decide) dX5_leakOfBest_24 lkm_X5_50 cal_X5_growthOfOthers cX_41 rfl rfl (Nat.le_of_ble_eq_true rfl) rfl) (fun v6 M7 => ?_)
  refine r_iload_n dX5_leakOfBest_27 rfl ?_
  refine r_isub dX5_leakOfBest_28 ?_
  exact r_iret (ty := .int) dX5_leakOfBest_29 rfl rfl rfl

theorem dX11_leaks_0 : decode cX11_leaks 0 = .ok (.aload_n 0, 1) := by decide +kernel
theorem dX11_leaks_1 : decode cX11_leaks 1 = .ok (.getfield 28, 3) := by decide +kernel
theorem dX11_leaks_4 : decode cX11_leaks 4 = .ok (.iload_n 1, 1) := by decide +kernel
theorem dX11_leaks_5 : decode cX11_leaks 5 = .ok (.invokevirtual 119, 3) := by decide +kernel
theorem dX11_leaks_8 : decode cX11_leaks 8 = .ok (.ifCond .eq 14, 3) := by decide +kernel
theorem dX11_leaks_11 : decode cX11_leaks 11 = .ok (.aload_n 0, 1) := by decide +kernel
theorem dX11_leaks_12 : decode cX11_leaks 12 = .ok (.getfield 55, 3) := by decide +kernel
theorem dX11_leaks_15 : decode cX11_leaks 15 = .ok (.iload_n 1, 1) := by decide +kernel
theorem dX11_leaks_16 : decode cX11_leaks 16 = .ok (.invokevirtual 214, 3) := by decide +kernel
theorem dX11_leaks_19 : decode cX11_leaks 19 = .ok (.goto 5, 3) := by decide +kernel
theorem dX11_leaks_22 : decode cX11_leaks 22 = .ok (.ldc 123, 2) := by decide +kernel
theorem dX11_leaks_24 : decode cX11_leaks 24 = .ok (.ireturn, 1) := by decide +kernel
abbrev mi_X11_leaks : MI := (zTX, RX11, yX11_leaks, cX11_leaks, 2, (some .int), 14)
theorem cal_X11_leaks : zCalV mi_X11_leaks 1 := ⟨⟨zTB_i5 61 (by decide +kernel), zTB_i5 59 (by decide +kernel), zTB_i5 60 (by decide +kernel), zTB_i1 1 (by decide +kernel)⟩, ⟨by decide, by decide, by decide +kernel⟩, by decide⟩
noncomputable def X11_leaks (x1 : Int32) (M : Mem) : Option (Int32 × Mem) :=
  if (X3_hasMan 23 x1 M) = true then
    bp_ (X5_leakOfBest x1 M) fun v2 M3 =>
    some (v2, M3)
  else
  some ((-1000000), M)
set_option maxRecDepth 100000 in
set_option maxHeartbeats 4000000 in
theorem X11_leaks_ok (G : Gh) (x1 : Int32) (M : Mem) : Mt G mi_X11_leaks [.ref (G.2.2.2 (0)), .int x1] M ((dO dIM) (X11_leaks x1 M)) := by
  refine Mt_of (lv := [some (.ref (G.2.2.2 (0))), some (.int x1)]) (by decide) rfl (Nat.le_of_ble_eq_true rfl) rfl ?_
  unfold X11_leaks
  refine r_aload_n dX11_leaks_0 rfl ?_
  refine r_getf (v := .ref (G.2.2.2 (23))) dX11_leaks_1 fX_0_2 kX11 (by decide) lkf_X11_28 rfl ?_
  refine r_iload_n dX11_leaks_4 rfl ?_
  refine c_Z (inv_V (mi := mi_X11_leaks) (b := 23) (rest := []) (X3_hasMan_ok_23 G x1 M) rfl (by decide) dX11_leaks_5 lkm_X11_119 cal_X3_hasMan cX_23 rfl rfl (Nat.le_of_ble_eq_true rfl) rfl) ?_
  refine r_ifz_eq (tgt := 22) dX11_leaks_8 rfl (fun h1 => ?_) (fun h1 => ?_)
  · refine r_aload_n dX11_leaks_11 rfl ?_
    refine r_getf (v := .ref (G.2.2.2 (41))) dX11_leaks_12 fX_0_5 kX11 (by decide) lkf_X11_55 rfl ?_
    refine r_iload_n dX11_leaks_15 rfl ?_
    refine c_OIM rfl (inv_V (mi := mi_X11_leaks) (b := 41) (rest := []) (X5_leakOfBest_ok G x1 M) rfl (by decide) dX11_leaks_16 lkm_X11_214 cal_X5_leakOfBest cX_41 rfl rfl (Nat.le_of_ble_eq_true rfl) rfl) (fun v2 M3 => ?_)
    refine r_goto (tgt := 24) dX11_leaks_19 rfl ?_
    exact r_iret (ty := .int) dX11_leaks_24 rfl rfl rfl
  refine r_ldcI (x := (-1000000)) dX11_leaks_22 lkc_X11_123 ?_
  exact r_iret (ty := .int) dX11_leaks_24 rfl rfl rfl

theorem dX5_findGood_0 : decode cX5_findGood 0 = .ok (.aload_n 0, 1) := by decide +kernel
theorem dX5_findGood_1 : decode cX5_findGood 1 = .ok (.invokevirtual 43, 3) := by decide +kernel
theorem dX5_findGood_4 : decode cX5_findGood 4 = .ok (.aload_n 0, 1) := by decide +kernel
theorem dX5_findGood_5 : decode cX5_findGood 5 = .ok (.aload_n 0, 1) := by decide +kernel
theorem dX5_findGood_6 : decode cX5_findGood 6 = .ok (.getfield 31, 3) := by decide +kernel
theorem dX5_findGood_9 : decode cX5_findGood 9 = .ok (.iload_n 1, 1) := by decide +kernel
theorem dX5_findGood_10 : decode cX5_findGood 10 = .ok (.iconst 1, 1) := by decide +kernel
theorem dX5_findGood_11 : decode cX5_findGood 11 = .ok (.iconst 0, 1) := by decide +kernel
theorem dX5_findGood_12 : decode cX5_findGood 12 = .ok (.invokevirtual 46, 3) := by decide +kernel
theorem dX5_findGood_15 : decode cX5_findGood 15 = .ok (.ireturn, 1) := by decide +kernel
abbrev mi_X5_findGood : MI := (zTX, RX5, yX5_findGood, cX5_findGood, 2, (some .int), 13)
theorem cal_X5_findGood : zCalV mi_X5_findGood 1 := ⟨⟨zTB_i5 77 (by decide +kernel), zTB_i5 75 (by decide +kernel), zTB_i5 76 (by decide +kernel), zTB_i1 10 (by decide +kernel)⟩, ⟨by decide, by decide, by decide +kernel⟩, by decide⟩
noncomputable def X5_findGood (x1 : Int32) (M : Mem) : Option (Int32 × Mem) :=
  bo_ (X5_clearRows M) fun M1 =>
  bp_ (X5_seek 35 x1 1 0 M1) fun v2 M3 =>
  some (v2, M3)
set_option maxRecDepth 100000 in
set_option maxHeartbeats 4000000 in
theorem X5_findGood_ok (G : Gh) (x1 : Int32) (M : Mem) : Mt G mi_X5_findGood [.ref (G.2.2.2 (41)), .int x1] M ((dO dIM) (X5_findGood x1 M)) := by
  refine Mt_of (lv := [some (.ref (G.2.2.2 (41))), some (.int x1)]) (by decide) rfl (Nat.le_of_ble_eq_true rfl) rfl ?_
  unfold X5_findGood
  refine r_aload_n dX5_findGood_0 rfl ?_
  refine c_OV rfl (inv_V (mi := mi_X5_findGood) (b := 41) (rest := []) (X5_clearRows_ok G M) rfl (by decide) dX5_findGood_1 lkm_X5_43 cal_X5_clearRows cX_41 rfl rfl (Nat.le_of_ble_eq_true rfl) rfl) (fun M1 => ?_)
  refine r_aload_n dX5_findGood_4 rfl ?_
  refine r_aload_n dX5_findGood_5 rfl ?_
  refine r_getf (v := .ref (G.2.2.2 (35))) dX5_findGood_6 fX_41_1 kX5 (by decide) lkf_X5_31 rfl ?_
  refine r_iload_n dX5_findGood_9 rfl ?_
  refine r_iconst (x := 1) dX5_findGood_10 rfl ?_
  refine r_iconst (x := 0) dX5_findGood_11 rfl ?_
  refine c_OIM rfl (inv_V (mi := mi_X5_findGood) (b := 41) (rest := []) (X5_seek_ok_35 G x1 1 0 M1) rfl (by decide) dX5_findGood_12 lkm_X5_46 cal_X5_seek cX_41 rfl rfl (Nat.le_of_ble_eq_true rfl) rfl) (fun v2 M3 => ?_)
  exact r_iret (ty := .int) dX5_findGood_15 rfl rfl rfl

theorem dX11_good_0 : decode cX11_good 0 = .ok (.aload_n 0, 1) := by decide +kernel
theorem dX11_good_1 : decode cX11_good 1 = .ok (.getfield 62, 3) := by decide +kernel
theorem dX11_good_4 : decode cX11_good 4 = .ok (.invokevirtual 105, 3) := by decide +kernel
theorem dX11_good_7 : decode cX11_good 7 = .ok (.aload_n 0, 1) := by decide +kernel
theorem dX11_good_8 : decode cX11_good 8 = .ok (.getfield 28, 3) := by decide +kernel
theorem dX11_good_11 : decode cX11_good 11 = .ok (.iload_n 1, 1) := by decide +kernel
theorem dX11_good_12 : decode cX11_good 12 = .ok (.invokevirtual 119, 3) := by decide +kernel
theorem dX11_good_15 : decode cX11_good 15 = .ok (.ifCond .eq 12, 3) := by decide +kernel
theorem dX11_good_18 : decode cX11_good 18 = .ok (.iload_n 2, 1) := by decide +kernel
theorem dX11_good_19 : decode cX11_good 19 = .ok (.ifCond .lt 8, 3) := by decide +kernel
theorem dX11_good_22 : decode cX11_good 22 = .ok (.iload_n 2, 1) := by decide +kernel
theorem dX11_good_23 : decode cX11_good 23 = .ok (.iconst 1, 1) := by decide +kernel
theorem dX11_good_24 : decode cX11_good 24 = .ok (.if_icmp .le 6, 3) := by decide +kernel
theorem dX11_good_27 : decode cX11_good 27 = .ok (.ldc 123, 2) := by decide +kernel
theorem dX11_good_29 : decode cX11_good 29 = .ok (.ireturn, 1) := by decide +kernel
theorem dX11_good_30 : decode cX11_good 30 = .ok (.aload_n 0, 1) := by decide +kernel
theorem dX11_good_31 : decode cX11_good 31 = .ok (.getfield 55, 3) := by decide +kernel
theorem dX11_good_34 : decode cX11_good 34 = .ok (.iload_n 1, 1) := by decide +kernel
theorem dX11_good_35 : decode cX11_good 35 = .ok (.invokevirtual 217, 3) := by decide +kernel
theorem dX11_good_38 : decode cX11_good 38 = .ok (.istore_n 3, 1) := by decide +kernel
theorem dX11_good_39 : decode cX11_good 39 = .ok (.aload_n 0, 1) := by decide +kernel
theorem dX11_good_40 : decode cX11_good 40 = .ok (.getfield 62, 3) := by decide +kernel
theorem dX11_good_43 : decode cX11_good 43 = .ok (.aload_n 0, 1) := by decide +kernel
theorem dX11_good_44 : decode cX11_good 44 = .ok (.getfield 55, 3) := by decide +kernel
theorem dX11_good_47 : decode cX11_good 47 = .ok (.getfield 201, 3) := by decide +kernel
theorem dX11_good_50 : decode cX11_good 50 = .ok (.iload_n 1, 1) := by decide +kernel
theorem dX11_good_51 : decode cX11_good 51 = .ok (.aload_n 0, 1) := by decide +kernel
theorem dX11_good_52 : decode cX11_good 52 = .ok (.getfield 28, 3) := by decide +kernel
theorem dX11_good_55 : decode cX11_good 55 = .ok (.getfield 204, 3) := by decide +kernel
theorem dX11_good_58 : decode cX11_good 58 = .ok (.invokevirtual 207, 3) := by decide +kernel
theorem dX11_good_61 : decode cX11_good 61 = .ok (.iload_n 2, 1) := by decide +kernel
theorem dX11_good_62 : decode cX11_good 62 = .ok (.ifCond .ne 7, 3) := by decide +kernel
theorem dX11_good_65 : decode cX11_good 65 = .ok (.iload_n 3, 1) := by decide +kernel
theorem dX11_good_66 : decode cX11_good 66 = .ok (.goto 11, 3) := by decide +kernel
theorem dX11_good_69 : decode cX11_good 69 = .ok (.aload_n 0, 1) := by decide +kernel
theorem dX11_good_70 : decode cX11_good 70 = .ok (.getfield 55, 3) := by decide +kernel
theorem dX11_good_73 : decode cX11_good 73 = .ok (.iload_n 1, 1) := by decide +kernel
theorem dX11_good_74 : decode cX11_good 74 = .ok (.invokevirtual 211, 3) := by decide +kernel
theorem dX11_good_77 : decode cX11_good 77 = .ok (.ireturn, 1) := by decide +kernel
abbrev mi_X11_good : MI := (zTX, RX11, yX11_good, cX11_good, 4, (some .int), 14)
theorem cal_X11_good : zCalV mi_X11_good 2 := ⟨⟨zTB_i5 73 (by decide +kernel), zTB_i5 71 (by decide +kernel), zTB_i5 72 (by decide +kernel), zTB_i1 1 (by decide +kernel)⟩, ⟨by decide, by decide, by decide +kernel⟩, by decide⟩
noncomputable def X11_good (x1 : Int32) (x2 : Int32) (M : Mem) : Option (Int32 × Mem) :=
  lt_ (X7_clear M) fun M1 =>
  if (X3_hasMan 23 x1 M1) = true then
    if x2 < 0 then
      some ((-1000000), M1)
    else
    if x2 ≤ 1 then
      bp_ (X5_findGood x1 M1) fun v5 M6 =>
      bo_ (X7_layRow 46 x1 (M6.1 23 1) M6) fun M7 =>
      if x2 = 0 then
        some (v5, M7)
      else
      bo_ (X5_hoursOf x1 M7) fun v9 =>
      some (v9, M7)
    else
    some ((-1000000), M1)
  else
  some ((-1000000), M1)
set_option maxRecDepth 100000 in
set_option maxHeartbeats 4000000 in
theorem X11_good_ok (G : Gh) (x1 : Int32) (x2 : Int32) (M : Mem) : Mt G mi_X11_good [.ref (G.2.2.2 (0)), .int x1, .int x2] M ((dO dIM) (X11_good x1 x2 M)) := by
  refine Mt_of (lv := [some (.ref (G.2.2.2 (0))), some (.int x1), some (.int x2)]) (by decide) rfl (Nat.le_of_ble_eq_true rfl) rfl ?_
  refine r_le (lv' := [some (.ref (G.2.2.2 (0))), some (.int x1), some (.int x2), none]) (And.intro rfl (And.intro rfl (And.intro rfl True.intro))) ?_
  unfold X11_good
  refine r_aload_n dX11_good_0 rfl ?_
  refine r_getf (v := .ref (G.2.2.2 (51))) dX11_good_1 fX_0_6 kX11 (by decide) lkf_X11_62 rfl ?_
  refine c_V (inv_V (mi := mi_X11_good) (b := 51) (rest := []) (X7_clear_ok G M) rfl (by decide) dX11_good_4 lkm_X11_105 cal_X7_clear cX_51 rfl rfl (Nat.le_of_ble_eq_true rfl) rfl) (fun M1 => ?_)
  refine r_aload_n dX11_good_7 rfl ?_
  refine r_getf (v := .ref (G.2.2.2 (23))) dX11_good_8 fX_0_2 kX11 (by decide) lkf_X11_28 rfl ?_
  refine r_iload_n dX11_good_11 rfl ?_
  refine c_Z (inv_V (mi := mi_X11_good) (b := 23) (rest := []) (X3_hasMan_ok_23 G x1 M1) rfl (by decide) dX11_good_12 lkm_X11_119 cal_X3_hasMan cX_23 rfl rfl (Nat.le_of_ble_eq_true rfl) rfl) ?_
  refine r_ifz_eq (tgt := 27) dX11_good_15 rfl (fun h2 => ?_) (fun h2 => ?_)
  · refine r_iload_n dX11_good_18 rfl ?_
    refine r_if_lt (tgt := 27) dX11_good_19 rfl (fun h3 => ?_) (fun h3 => ?_)
    · refine r_ldcI (x := (-1000000)) dX11_good_27 lkc_X11_123 ?_
      exact r_iret (ty := .int) dX11_good_29 rfl rfl rfl
    refine r_iload_n dX11_good_22 rfl ?_
    refine r_iconst (x := 1) dX11_good_23 rfl ?_
    refine r_icmp_le (tgt := 30) dX11_good_24 rfl (fun h4 => ?_) (fun h4 => ?_)
    · refine r_aload_n dX11_good_30 rfl ?_
      refine r_getf (v := .ref (G.2.2.2 (41))) dX11_good_31 fX_0_5 kX11 (by decide) lkf_X11_55 rfl ?_
      refine r_iload_n dX11_good_34 rfl ?_
      refine c_OIM rfl (inv_V (mi := mi_X11_good) (b := 41) (rest := []) (X5_findGood_ok G x1 M1) rfl (by decide) dX11_good_35 lkm_X11_217 cal_X5_findGood cX_41 rfl rfl (Nat.le_of_ble_eq_true rfl) rfl) (fun v5 M6 => ?_)
      refine r_istore_n (lv' := [some (.ref (G.2.2.2 (0))), some (.int x1), some (.int x2), some (.int v5)]) dX11_good_38 (Nat.le_of_ble_eq_true rfl) rfl rfl ?_
      refine r_aload_n dX11_good_39 rfl ?_
      refine r_getf (v := .ref (G.2.2.2 (51))) dX11_good_40 fX_0_6 kX11 (by decide) lkf_X11_62 rfl ?_
      refine r_aload_n dX11_good_43 rfl ?_
      refine r_getf (v := .ref (G.2.2.2 (41))) dX11_good_44 fX_0_5 kX11 (by decide) lkf_X11_55 rfl ?_
      refine r_getf (v := .ref (G.2.2.2 (46))) dX11_good_47 fX_41_3 kX5 (by decide) lkf_X11_201 rfl ?_
      refine r_iload_n dX11_good_50 rfl ?_
      refine r_aload_n dX11_good_51 rfl ?_
      refine r_getf (v := .ref (G.2.2.2 (23))) dX11_good_52 fX_0_2 kX11 (by decide) lkf_X11_28 rfl ?_
      refine r_getf (v := .int (M6.1 23 1)) dX11_good_55 fX_23_1 kX3 (by decide) lkf_X11_204 rfl ?_
      refine c_OV rfl (inv_V (mi := mi_X11_good) (b := 51) (rest := []) (X7_layRow_ok G aX_46p x1 (M6.1 23 1) M6) rfl (by decide) dX11_good_58 lkm_X11_207 cal_X7_layRow cX_51 rfl rfl (Nat.le_of_ble_eq_true rfl) rfl) (fun M7 => ?_)
      refine r_iload_n dX11_good_61 rfl ?_
      refine r_if_ne (tgt := 69) dX11_good_62 rfl (fun h8 => ?_) (fun h8 => ?_)
      · refine r_iload_n dX11_good_65 rfl ?_
        refine r_goto (tgt := 77) dX11_good_66 rfl ?_
        exact r_iret (ty := .int) dX11_good_77 rfl rfl rfl
      refine r_aload_n dX11_good_69 rfl ?_
      refine r_getf (v := .ref (G.2.2.2 (41))) dX11_good_70 fX_0_5 kX11 (by decide) lkf_X11_55 rfl ?_
      refine r_iload_n dX11_good_73 rfl ?_
      refine c_OI rfl (inv_V (mi := mi_X11_good) (b := 41) (rest := []) (X5_hoursOf_ok G x1 M7) rfl (by decide) dX11_good_74 lkm_X11_211 cal_X5_hoursOf cX_41 rfl rfl (Nat.le_of_ble_eq_true rfl) rfl) (fun v9 => ?_)
      exact r_iret (ty := .int) dX11_good_77 rfl rfl rfl
    refine r_ldcI (x := (-1000000)) dX11_good_27 lkc_X11_123 ?_
    exact r_iret (ty := .int) dX11_good_29 rfl rfl rfl
  refine r_ldcI (x := (-1000000)) dX11_good_27 lkc_X11_123 ?_
  exact r_iret (ty := .int) dX11_good_29 rfl rfl rfl

theorem dX5_findNeeds_0 : decode cX5_findNeeds 0 = .ok (.aload_n 0, 1) := by decide +kernel
theorem dX5_findNeeds_1 : decode cX5_findNeeds 1 = .ok (.invokevirtual 43, 3) := by decide +kernel
theorem dX5_findNeeds_4 : decode cX5_findNeeds 4 = .ok (.aload_n 0, 1) := by decide +kernel
theorem dX5_findNeeds_5 : decode cX5_findNeeds 5 = .ok (.aload_n 0, 1) := by decide +kernel
theorem dX5_findNeeds_6 : decode cX5_findNeeds 6 = .ok (.getfield 31, 3) := by decide +kernel
theorem dX5_findNeeds_9 : decode cX5_findNeeds 9 = .ok (.iload_n 1, 1) := by decide +kernel
theorem dX5_findNeeds_10 : decode cX5_findNeeds 10 = .ok (.iconst 2, 1) := by decide +kernel
theorem dX5_findNeeds_11 : decode cX5_findNeeds 11 = .ok (.iload_n 2, 1) := by decide +kernel
theorem dX5_findNeeds_12 : decode cX5_findNeeds 12 = .ok (.invokevirtual 46, 3) := by decide +kernel
theorem dX5_findNeeds_15 : decode cX5_findNeeds 15 = .ok (.iconst 1, 1) := by decide +kernel
theorem dX5_findNeeds_16 : decode cX5_findNeeds 16 = .ok (.if_icmp .ne 7, 3) := by decide +kernel
theorem dX5_findNeeds_19 : decode cX5_findNeeds 19 = .ok (.iconst 1, 1) := by decide +kernel
theorem dX5_findNeeds_20 : decode cX5_findNeeds 20 = .ok (.goto 4, 3) := by decide +kernel
theorem dX5_findNeeds_23 : decode cX5_findNeeds 23 = .ok (.iconst 0, 1) := by decide +kernel
theorem dX5_findNeeds_24 : decode cX5_findNeeds 24 = .ok (.ireturn, 1) := by decide +kernel
abbrev mi_X5_findNeeds : MI := (zTX, RX5, yX5_findNeeds, cX5_findNeeds, 3, (some .boolean), 13)
theorem cal_X5_findNeeds : zCalV mi_X5_findNeeds 2 := ⟨⟨zTB_i5 85 (by decide +kernel), zTB_i5 83 (by decide +kernel), zTB_i5 84 (by decide +kernel), zTB_i1 10 (by decide +kernel)⟩, ⟨by decide, by decide, by decide +kernel⟩, by decide⟩
noncomputable def X5_findNeeds (x1 : Int32) (x2 : Int32) (M : Mem) : Option (Bool × Mem) :=
  bo_ (X5_clearRows M) fun M1 =>
  bp_ (X5_seek 35 x1 2 x2 M1) fun v2 M3 =>
  if v2 = 1 then
    some (true, M3)
  else
  some (false, M3)
set_option maxRecDepth 100000 in
set_option maxHeartbeats 4000000 in
theorem X5_findNeeds_ok (G : Gh) (x1 : Int32) (x2 : Int32) (M : Mem) : Mt G mi_X5_findNeeds [.ref (G.2.2.2 (41)), .int x1, .int x2] M ((dO dZM) (X5_findNeeds x1 x2 M)) := by
  refine Mt_of (lv := [some (.ref (G.2.2.2 (41))), some (.int x1), some (.int x2)]) (by decide) rfl (Nat.le_of_ble_eq_true rfl) rfl ?_
  unfold X5_findNeeds
  refine r_aload_n dX5_findNeeds_0 rfl ?_
  refine c_OV rfl (inv_V (mi := mi_X5_findNeeds) (b := 41) (rest := []) (X5_clearRows_ok G M) rfl (by decide) dX5_findNeeds_1 lkm_X5_43 cal_X5_clearRows cX_41 rfl rfl (Nat.le_of_ble_eq_true rfl) rfl) (fun M1 => ?_)
  refine r_aload_n dX5_findNeeds_4 rfl ?_
  refine r_aload_n dX5_findNeeds_5 rfl ?_
  refine r_getf (v := .ref (G.2.2.2 (35))) dX5_findNeeds_6 fX_41_1 kX5 (by decide) lkf_X5_31 rfl ?_
  refine r_iload_n dX5_findNeeds_9 rfl ?_
  refine r_iconst (x := 2) dX5_findNeeds_10 rfl ?_
  refine r_iload_n dX5_findNeeds_11 rfl ?_
  refine c_OIM rfl (inv_V (mi := mi_X5_findNeeds) (b := 41) (rest := []) (X5_seek_ok_35 G x1 2 x2 M1) rfl (by decide) dX5_findNeeds_12 lkm_X5_46 cal_X5_seek cX_41 rfl rfl (Nat.le_of_ble_eq_true rfl) rfl) (fun v2 M3 => ?_)
  refine r_iconst (x := 1) dX5_findNeeds_15 rfl ?_
  refine r_icmp_ne (tgt := 23) dX5_findNeeds_16 rfl (fun h4 => ?_) (fun h4 => ?_)
  · refine r_iconst (x := 1) dX5_findNeeds_19 rfl ?_
    refine r_goto (tgt := 24) dX5_findNeeds_20 rfl ?_
    exact r_iret (ty := .boolean) dX5_findNeeds_24 rfl rfl rfl
  refine r_iconst (x := 0) dX5_findNeeds_23 rfl ?_
  exact r_iret (ty := .boolean) dX5_findNeeds_24 rfl rfl rfl

theorem dX11_needs_0 : decode cX11_needs 0 = .ok (.aload_n 0, 1) := by decide +kernel
theorem dX11_needs_1 : decode cX11_needs 1 = .ok (.getfield 62, 3) := by decide +kernel
theorem dX11_needs_4 : decode cX11_needs 4 = .ok (.invokevirtual 105, 3) := by decide +kernel
theorem dX11_needs_7 : decode cX11_needs 7 = .ok (.aload_n 0, 1) := by decide +kernel
theorem dX11_needs_8 : decode cX11_needs 8 = .ok (.getfield 28, 3) := by decide +kernel
theorem dX11_needs_11 : decode cX11_needs 11 = .ok (.iload_n 1, 1) := by decide +kernel
theorem dX11_needs_12 : decode cX11_needs 12 = .ok (.invokevirtual 119, 3) := by decide +kernel
theorem dX11_needs_15 : decode cX11_needs 15 = .ok (.ifCond .eq 15, 3) := by decide +kernel
theorem dX11_needs_18 : decode cX11_needs 18 = .ok (.iload_n 2, 1) := by decide +kernel
theorem dX11_needs_19 : decode cX11_needs 19 = .ok (.bipush (-20), 2) := by decide +kernel
theorem dX11_needs_21 : decode cX11_needs 21 = .ok (.if_icmp .lt 9, 3) := by decide +kernel
theorem dX11_needs_24 : decode cX11_needs 24 = .ok (.iload_n 2, 1) := by decide +kernel
theorem dX11_needs_25 : decode cX11_needs 25 = .ok (.bipush 20, 2) := by decide +kernel
theorem dX11_needs_27 : decode cX11_needs 27 = .ok (.if_icmp .le 5, 3) := by decide +kernel
theorem dX11_needs_30 : decode cX11_needs 30 = .ok (.iconst (-1), 1) := by decide +kernel
theorem dX11_needs_31 : decode cX11_needs 31 = .ok (.ireturn, 1) := by decide +kernel
theorem dX11_needs_32 : decode cX11_needs 32 = .ok (.aload_n 0, 1) := by decide +kernel
theorem dX11_needs_33 : decode cX11_needs 33 = .ok (.getfield 55, 3) := by decide +kernel
theorem dX11_needs_36 : decode cX11_needs 36 = .ok (.iload_n 1, 1) := by decide +kernel
theorem dX11_needs_37 : decode cX11_needs 37 = .ok (.iload_n 2, 1) := by decide +kernel
theorem dX11_needs_38 : decode cX11_needs 38 = .ok (.invokevirtual 220, 3) := by decide +kernel
theorem dX11_needs_41 : decode cX11_needs 41 = .ok (.ifCond .ne 5, 3) := by decide +kernel
theorem dX11_needs_44 : decode cX11_needs 44 = .ok (.iconst (-1), 1) := by decide +kernel
theorem dX11_needs_45 : decode cX11_needs 45 = .ok (.ireturn, 1) := by decide +kernel
theorem dX11_needs_46 : decode cX11_needs 46 = .ok (.aload_n 0, 1) := by decide +kernel
theorem dX11_needs_47 : decode cX11_needs 47 = .ok (.getfield 62, 3) := by decide +kernel
theorem dX11_needs_50 : decode cX11_needs 50 = .ok (.aload_n 0, 1) := by decide +kernel
theorem dX11_needs_51 : decode cX11_needs 51 = .ok (.getfield 55, 3) := by decide +kernel
theorem dX11_needs_54 : decode cX11_needs 54 = .ok (.getfield 201, 3) := by decide +kernel
theorem dX11_needs_57 : decode cX11_needs 57 = .ok (.iload_n 1, 1) := by decide +kernel
theorem dX11_needs_58 : decode cX11_needs 58 = .ok (.aload_n 0, 1) := by decide +kernel
theorem dX11_needs_59 : decode cX11_needs 59 = .ok (.getfield 28, 3) := by decide +kernel
theorem dX11_needs_62 : decode cX11_needs 62 = .ok (.getfield 204, 3) := by decide +kernel
theorem dX11_needs_65 : decode cX11_needs 65 = .ok (.invokevirtual 207, 3) := by decide +kernel
theorem dX11_needs_68 : decode cX11_needs 68 = .ok (.aload_n 0, 1) := by decide +kernel
theorem dX11_needs_69 : decode cX11_needs 69 = .ok (.getfield 55, 3) := by decide +kernel
theorem dX11_needs_72 : decode cX11_needs 72 = .ok (.iload_n 1, 1) := by decide +kernel
theorem dX11_needs_73 : decode cX11_needs 73 = .ok (.invokevirtual 211, 3) := by decide +kernel
theorem dX11_needs_76 : decode cX11_needs 76 = .ok (.ireturn, 1) := by decide +kernel
abbrev mi_X11_needs : MI := (zTX, RX11, yX11_needs, cX11_needs, 3, (some .int), 14)
theorem cal_X11_needs : zCalV mi_X11_needs 2 := ⟨⟨zTB_i5 81 (by decide +kernel), zTB_i5 79 (by decide +kernel), zTB_i5 80 (by decide +kernel), zTB_i1 1 (by decide +kernel)⟩, ⟨by decide, by decide, by decide +kernel⟩, by decide⟩
noncomputable def X11_needs (x1 : Int32) (x2 : Int32) (M : Mem) : Option (Int32 × Mem) :=
  lt_ (X7_clear M) fun M1 =>
  if (X3_hasMan 23 x1 M1) = true then
    if x2 < (-20) then
      some ((-1), M1)
    else
    if x2 ≤ 20 then
      bp_ (X5_findNeeds x1 x2 M1) fun b5 M6 =>
      if b5 = true then
        bo_ (X7_layRow 46 x1 (M6.1 23 1) M6) fun M8 =>
        bo_ (X5_hoursOf x1 M8) fun v9 =>
        some (v9, M8)
      else
      some ((-1), M6)
    else
    some ((-1), M1)
  else
  some ((-1), M1)
set_option maxRecDepth 100000 in
set_option maxHeartbeats 4000000 in
theorem X11_needs_ok (G : Gh) (x1 : Int32) (x2 : Int32) (M : Mem) : Mt G mi_X11_needs [.ref (G.2.2.2 (0)), .int x1, .int x2] M ((dO dIM) (X11_needs x1 x2 M)) := by
  refine Mt_of (lv := [some (.ref (G.2.2.2 (0))), some (.int x1), some (.int x2)]) (by decide) rfl (Nat.le_of_ble_eq_true rfl) rfl ?_
  unfold X11_needs
  refine r_aload_n dX11_needs_0 rfl ?_
  refine r_getf (v := .ref (G.2.2.2 (51))) dX11_needs_1 fX_0_6 kX11 (by decide) lkf_X11_62 rfl ?_
  refine c_V (inv_V (mi := mi_X11_needs) (b := 51) (rest := []) (X7_clear_ok G M) rfl (by decide) dX11_needs_4 lkm_X11_105 cal_X7_clear cX_51 rfl rfl (Nat.le_of_ble_eq_true rfl) rfl) (fun M1 => ?_)
  refine r_aload_n dX11_needs_7 rfl ?_
  refine r_getf (v := .ref (G.2.2.2 (23))) dX11_needs_8 fX_0_2 kX11 (by decide) lkf_X11_28 rfl ?_
  refine r_iload_n dX11_needs_11 rfl ?_
  refine c_Z (inv_V (mi := mi_X11_needs) (b := 23) (rest := []) (X3_hasMan_ok_23 G x1 M1) rfl (by decide) dX11_needs_12 lkm_X11_119 cal_X3_hasMan cX_23 rfl rfl (Nat.le_of_ble_eq_true rfl) rfl) ?_
  refine r_ifz_eq (tgt := 30) dX11_needs_15 rfl (fun h2 => ?_) (fun h2 => ?_)
  · refine r_iload_n dX11_needs_18 rfl ?_
    refine r_bipush (x := (-20)) dX11_needs_19 rfl ?_
    refine r_icmp_lt (tgt := 30) dX11_needs_21 rfl (fun h3 => ?_) (fun h3 => ?_)
    · refine r_iconst (x := (-1)) dX11_needs_30 rfl ?_
      exact r_iret (ty := .int) dX11_needs_31 rfl rfl rfl
    refine r_iload_n dX11_needs_24 rfl ?_
    refine r_bipush (x := 20) dX11_needs_25 rfl ?_
    refine r_icmp_le (tgt := 32) dX11_needs_27 rfl (fun h4 => ?_) (fun h4 => ?_)
    · refine r_aload_n dX11_needs_32 rfl ?_
      refine r_getf (v := .ref (G.2.2.2 (41))) dX11_needs_33 fX_0_5 kX11 (by decide) lkf_X11_55 rfl ?_
      refine r_iload_n dX11_needs_36 rfl ?_
      refine r_iload_n dX11_needs_37 rfl ?_
      refine c_OZM rfl (inv_V (mi := mi_X11_needs) (b := 41) (rest := []) (X5_findNeeds_ok G x1 x2 M1) rfl (by decide) dX11_needs_38 lkm_X11_220 cal_X5_findNeeds cX_41 rfl rfl (Nat.le_of_ble_eq_true rfl) rfl) (fun b5 M6 => ?_)
      refine r_ifz_ne (tgt := 46) dX11_needs_41 rfl (fun h7 => ?_) (fun h7 => ?_)
      · refine r_aload_n dX11_needs_46 rfl ?_
        refine r_getf (v := .ref (G.2.2.2 (51))) dX11_needs_47 fX_0_6 kX11 (by decide) lkf_X11_62 rfl ?_
        refine r_aload_n dX11_needs_50 rfl ?_
        refine r_getf (v := .ref (G.2.2.2 (41))) dX11_needs_51 fX_0_5 kX11 (by decide) lkf_X11_55 rfl ?_
        refine r_getf (v := .ref (G.2.2.2 (46))) dX11_needs_54 fX_41_3 kX5 (by decide) lkf_X11_201 rfl ?_
        refine r_iload_n dX11_needs_57 rfl ?_
        refine r_aload_n dX11_needs_58 rfl ?_
        refine r_getf (v := .ref (G.2.2.2 (23))) dX11_needs_59 fX_0_2 kX11 (by decide) lkf_X11_28 rfl ?_
        refine r_getf (v := .int (M6.1 23 1)) dX11_needs_62 fX_23_1 kX3 (by decide) lkf_X11_204 rfl ?_
        refine c_OV rfl (inv_V (mi := mi_X11_needs) (b := 51) (rest := []) (X7_layRow_ok G aX_46p x1 (M6.1 23 1) M6) rfl (by decide) dX11_needs_65 lkm_X11_207 cal_X7_layRow cX_51 rfl rfl (Nat.le_of_ble_eq_true rfl) rfl) (fun M8 => ?_)
        refine r_aload_n dX11_needs_68 rfl ?_
        refine r_getf (v := .ref (G.2.2.2 (41))) dX11_needs_69 fX_0_5 kX11 (by decide) lkf_X11_55 rfl ?_
        refine r_iload_n dX11_needs_72 rfl ?_
        refine c_OI rfl (inv_V (mi := mi_X11_needs) (b := 41) (rest := []) (X5_hoursOf_ok G x1 M8) rfl (by decide) dX11_needs_73 lkm_X11_211 cal_X5_hoursOf cX_41 rfl rfl (Nat.le_of_ble_eq_true rfl) rfl) (fun v9 => ?_)
        exact r_iret (ty := .int) dX11_needs_76 rfl rfl rfl
      refine r_iconst (x := (-1)) dX11_needs_44 rfl ?_
      exact r_iret (ty := .int) dX11_needs_45 rfl rfl rfl
    refine r_iconst (x := (-1)) dX11_needs_30 rfl ?_
    exact r_iret (ty := .int) dX11_needs_31 rfl rfl rfl
  refine r_iconst (x := (-1)) dX11_needs_30 rfl ?_
  exact r_iret (ty := .int) dX11_needs_31 rfl rfl rfl

theorem dX3_hasTwo_0 : decode cX3_hasTwo 0 = .ok (.aload_n 0, 1) := by decide +kernel
theorem dX3_hasTwo_1 : decode cX3_hasTwo 1 = .ok (.iload_n 1, 1) := by decide +kernel
theorem dX3_hasTwo_2 : decode cX3_hasTwo 2 = .ok (.invokevirtual 77, 3) := by decide +kernel
theorem dX3_hasTwo_5 : decode cX3_hasTwo 5 = .ok (.ifCond .eq 20, 3) := by decide +kernel
theorem dX3_hasTwo_8 : decode cX3_hasTwo 8 = .ok (.aload_n 0, 1) := by decide +kernel
theorem dX3_hasTwo_9 : decode cX3_hasTwo 9 = .ok (.iload_n 2, 1) := by decide +kernel
theorem dX3_hasTwo_10 : decode cX3_hasTwo 10 = .ok (.invokevirtual 77, 3) := by decide +kernel
theorem dX3_hasTwo_13 : decode cX3_hasTwo 13 = .ok (.ifCond .eq 12, 3) := by decide +kernel
theorem dX3_hasTwo_16 : decode cX3_hasTwo 16 = .ok (.iload_n 1, 1) := by decide +kernel
theorem dX3_hasTwo_17 : decode cX3_hasTwo 17 = .ok (.iload_n 2, 1) := by decide +kernel
theorem dX3_hasTwo_18 : decode cX3_hasTwo 18 = .ok (.if_icmp .eq 7, 3) := by decide +kernel
theorem dX3_hasTwo_21 : decode cX3_hasTwo 21 = .ok (.iconst 1, 1) := by decide +kernel
theorem dX3_hasTwo_22 : decode cX3_hasTwo 22 = .ok (.goto 4, 3) := by decide +kernel
theorem dX3_hasTwo_25 : decode cX3_hasTwo 25 = .ok (.iconst 0, 1) := by decide +kernel
theorem dX3_hasTwo_26 : decode cX3_hasTwo 26 = .ok (.ireturn, 1) := by decide +kernel
abbrev mi_X3_hasTwo : MI := (zTX, RX3, yX3_hasTwo, cX3_hasTwo, 3, (some .boolean), 3)
theorem cal_X3_hasTwo : zCalV mi_X3_hasTwo 2 := ⟨⟨zTB_i5 93 (by decide +kernel), zTB_i5 91 (by decide +kernel), zTB_i5 92 (by decide +kernel), zTB_i1 4 (by decide +kernel)⟩, ⟨by decide, by decide, by decide +kernel⟩, by decide⟩
noncomputable def X3_hasTwo (o0 : Nat) (x1 : Int32) (x2 : Int32) (M : Mem) : Bool :=
  if (X3_hasMan o0 x1 M) = true then
    if (X3_hasMan o0 x2 M) = true then
      if x1 = x2 then
        false
      else
      true
    else
    false
  else
  false
set_option maxRecDepth 100000 in
set_option maxHeartbeats 4000000 in
theorem X3_hasTwo_ok_4 (G : Gh) (x1 : Int32) (x2 : Int32) (M : Mem) : Mt G mi_X3_hasTwo [.ref (G.2.2.2 (4)), .int x1, .int x2] M ((dZ M) (X3_hasTwo 4 x1 x2 M)) := by
  refine Mt_of (lv := [some (.ref (G.2.2.2 (4))), some (.int x1), some (.int x2)]) (by decide) rfl (Nat.le_of_ble_eq_true rfl) rfl ?_
  unfold X3_hasTwo
  refine r_aload_n dX3_hasTwo_0 rfl ?_
  refine r_iload_n dX3_hasTwo_1 rfl ?_
  refine c_Z (inv_V (mi := mi_X3_hasTwo) (b := 4) (rest := []) (X3_hasMan_ok_4 G x1 M) rfl (by decide) dX3_hasTwo_2 lkm_X3_77 cal_X3_hasMan cX_4 rfl rfl (Nat.le_of_ble_eq_true rfl) rfl) ?_
  refine r_ifz_eq (tgt := 25) dX3_hasTwo_5 rfl (fun h1 => ?_) (fun h1 => ?_)
  · refine r_aload_n dX3_hasTwo_8 rfl ?_
    refine r_iload_n dX3_hasTwo_9 rfl ?_
    refine c_Z (inv_V (mi := mi_X3_hasTwo) (b := 4) (rest := []) (X3_hasMan_ok_4 G x2 M) rfl (by decide) dX3_hasTwo_10 lkm_X3_77 cal_X3_hasMan cX_4 rfl rfl (Nat.le_of_ble_eq_true rfl) rfl) ?_
    refine r_ifz_eq (tgt := 25) dX3_hasTwo_13 rfl (fun h2 => ?_) (fun h2 => ?_)
    · refine r_iload_n dX3_hasTwo_16 rfl ?_
      refine r_iload_n dX3_hasTwo_17 rfl ?_
      refine r_icmp_eq (tgt := 25) dX3_hasTwo_18 rfl (fun h3 => ?_) (fun h3 => ?_)
      · refine r_iconst (x := 0) dX3_hasTwo_25 rfl ?_
        exact r_iret (ty := .boolean) dX3_hasTwo_26 rfl rfl rfl
      refine r_iconst (x := 1) dX3_hasTwo_21 rfl ?_
      refine r_goto (tgt := 26) dX3_hasTwo_22 rfl ?_
      exact r_iret (ty := .boolean) dX3_hasTwo_26 rfl rfl rfl
    refine r_iconst (x := 0) dX3_hasTwo_25 rfl ?_
    exact r_iret (ty := .boolean) dX3_hasTwo_26 rfl rfl rfl
  refine r_iconst (x := 0) dX3_hasTwo_25 rfl ?_
  exact r_iret (ty := .boolean) dX3_hasTwo_26 rfl rfl rfl
set_option maxRecDepth 100000 in
set_option maxHeartbeats 4000000 in
theorem X3_hasTwo_ok_23 (G : Gh) (x1 : Int32) (x2 : Int32) (M : Mem) : Mt G mi_X3_hasTwo [.ref (G.2.2.2 (23)), .int x1, .int x2] M ((dZ M) (X3_hasTwo 23 x1 x2 M)) := by
  refine Mt_of (lv := [some (.ref (G.2.2.2 (23))), some (.int x1), some (.int x2)]) (by decide) rfl (Nat.le_of_ble_eq_true rfl) rfl ?_
  unfold X3_hasTwo
  refine r_aload_n dX3_hasTwo_0 rfl ?_
  refine r_iload_n dX3_hasTwo_1 rfl ?_
  refine c_Z (inv_V (mi := mi_X3_hasTwo) (b := 23) (rest := []) (X3_hasMan_ok_23 G x1 M) rfl (by decide) dX3_hasTwo_2 lkm_X3_77 cal_X3_hasMan cX_23 rfl rfl (Nat.le_of_ble_eq_true rfl) rfl) ?_
  refine r_ifz_eq (tgt := 25) dX3_hasTwo_5 rfl (fun h1 => ?_) (fun h1 => ?_)
  · refine r_aload_n dX3_hasTwo_8 rfl ?_
    refine r_iload_n dX3_hasTwo_9 rfl ?_
    refine c_Z (inv_V (mi := mi_X3_hasTwo) (b := 23) (rest := []) (X3_hasMan_ok_23 G x2 M) rfl (by decide) dX3_hasTwo_10 lkm_X3_77 cal_X3_hasMan cX_23 rfl rfl (Nat.le_of_ble_eq_true rfl) rfl) ?_
    refine r_ifz_eq (tgt := 25) dX3_hasTwo_13 rfl (fun h2 => ?_) (fun h2 => ?_)
    · refine r_iload_n dX3_hasTwo_16 rfl ?_
      refine r_iload_n dX3_hasTwo_17 rfl ?_
      refine r_icmp_eq (tgt := 25) dX3_hasTwo_18 rfl (fun h3 => ?_) (fun h3 => ?_)
      · refine r_iconst (x := 0) dX3_hasTwo_25 rfl ?_
        exact r_iret (ty := .boolean) dX3_hasTwo_26 rfl rfl rfl
      refine r_iconst (x := 1) dX3_hasTwo_21 rfl ?_
      refine r_goto (tgt := 26) dX3_hasTwo_22 rfl ?_
      exact r_iret (ty := .boolean) dX3_hasTwo_26 rfl rfl rfl
    refine r_iconst (x := 0) dX3_hasTwo_25 rfl ?_
    exact r_iret (ty := .boolean) dX3_hasTwo_26 rfl rfl rfl
  refine r_iconst (x := 0) dX3_hasTwo_25 rfl ?_
  exact r_iret (ty := .boolean) dX3_hasTwo_26 rfl rfl rfl

theorem dX5_inBoth_0 : decode cX5_inBoth 0 = .ok (.aload_n 0, 1) := by decide +kernel
theorem dX5_inBoth_1 : decode cX5_inBoth 1 = .ok (.getfield 31, 3) := by decide +kernel
theorem dX5_inBoth_4 : decode cX5_inBoth 4 = .ok (.iload_n 1, 1) := by decide +kernel
theorem dX5_inBoth_5 : decode cX5_inBoth 5 = .ok (.iload_n 3, 1) := by decide +kernel
theorem dX5_inBoth_6 : decode cX5_inBoth 6 = .ok (.invokevirtual 104, 3) := by decide +kernel
theorem dX5_inBoth_9 : decode cX5_inBoth 9 = .ok (.aload_n 0, 1) := by decide +kernel
theorem dX5_inBoth_10 : decode cX5_inBoth 10 = .ok (.getfield 31, 3) := by decide +kernel
theorem dX5_inBoth_13 : decode cX5_inBoth 13 = .ok (.iload_n 2, 1) := by decide +kernel
theorem dX5_inBoth_14 : decode cX5_inBoth 14 = .ok (.iload_n 3, 1) := by decide +kernel
theorem dX5_inBoth_15 : decode cX5_inBoth 15 = .ok (.invokevirtual 104, 3) := by decide +kernel
theorem dX5_inBoth_18 : decode cX5_inBoth 18 = .ok (.iadd, 1) := by decide +kernel
theorem dX5_inBoth_19 : decode cX5_inBoth 19 = .ok (.ireturn, 1) := by decide +kernel
abbrev mi_X5_inBoth : MI := (zTX, RX5, yX5_inBoth, cX5_inBoth, 4, (some .int), 4)
theorem cal_X5_inBoth : zCalV mi_X5_inBoth 3 := ⟨⟨zTB_i5 102 (by decide +kernel), zTB_i5 101 (by decide +kernel), zTB_i0 35 (by decide +kernel), zTB_i1 10 (by decide +kernel)⟩, ⟨by decide, by decide, by decide +kernel⟩, by decide⟩
noncomputable def X5_inBoth (x1 : Int32) (x2 : Int32) (x3 : Int32) (M : Mem) : Int32 :=
  (X9_purseOf 35 x1 x3 M) + (X9_purseOf 35 x2 x3 M)
set_option maxRecDepth 100000 in
set_option maxHeartbeats 4000000 in
theorem X5_inBoth_ok (G : Gh) (x1 : Int32) (x2 : Int32) (x3 : Int32) (M : Mem) : Mt G mi_X5_inBoth [.ref (G.2.2.2 (41)), .int x1, .int x2, .int x3] M ((dI M) (X5_inBoth x1 x2 x3 M)) := by
  refine Mt_of (lv := [some (.ref (G.2.2.2 (41))), some (.int x1), some (.int x2), some (.int x3)]) (by decide) rfl (Nat.le_of_ble_eq_true rfl) rfl ?_
  unfold X5_inBoth
  refine r_aload_n dX5_inBoth_0 rfl ?_
  refine r_getf (v := .ref (G.2.2.2 (35))) dX5_inBoth_1 fX_41_1 kX5 (by decide) lkf_X5_31 rfl ?_
  refine r_iload_n dX5_inBoth_4 rfl ?_
  refine r_iload_n dX5_inBoth_5 rfl ?_
  refine c_I (inv_V (mi := mi_X5_inBoth) (b := 35) (rest := []) (X9_purseOf_ok_35 G x1 x3 M) rfl (by decide) dX5_inBoth_6 lkm_X5_104 cal_X9_purseOf cX_35 rfl rfl (Nat.le_of_ble_eq_true rfl) rfl) ?_
  refine r_aload_n dX5_inBoth_9 rfl ?_
  refine r_getf (v := .ref (G.2.2.2 (35))) dX5_inBoth_10 fX_41_1 kX5 (by decide) lkf_X5_31 rfl ?_
  refine r_iload_n dX5_inBoth_13 rfl ?_
  refine r_iload_n dX5_inBoth_14 rfl ?_
  refine c_I (inv_V (mi := mi_X5_inBoth) (b := 35) (rest := [.int ((X9_purseOf 35 x1 x3 M))]) (X9_purseOf_ok_35 G x2 x3 M) rfl (by decide) dX5_inBoth_15 lkm_X5_104 cal_X9_purseOf cX_35 rfl rfl (Nat.le_of_ble_eq_true rfl) rfl) ?_
  refine r_iadd dX5_inBoth_18 ?_
  exact r_iret (ty := .int) dX5_inBoth_19 rfl rfl rfl

theorem dX5_growthOfTwo_0 : decode cX5_growthOfTwo 0 = .ok (.aload_n 0, 1) := by decide +kernel
theorem dX5_growthOfTwo_1 : decode cX5_growthOfTwo 1 = .ok (.getfield 31, 3) := by decide +kernel
theorem dX5_growthOfTwo_4 : decode cX5_growthOfTwo 4 = .ok (.aload_n 0, 1) := by decide +kernel
theorem dX5_growthOfTwo_5 : decode cX5_growthOfTwo 5 = .ok (.getfield 9, 3) := by decide +kernel
theorem dX5_growthOfTwo_8 : decode cX5_growthOfTwo 8 = .ok (.iload_n 1, 1) := by decide +kernel
theorem dX5_growthOfTwo_9 : decode cX5_growthOfTwo 9 = .ok (.invokevirtual 58, 3) := by decide +kernel
theorem dX5_growthOfTwo_12 : decode cX5_growthOfTwo 12 = .ok (.aload_n 0, 1) := by decide +kernel
theorem dX5_growthOfTwo_13 : decode cX5_growthOfTwo 13 = .ok (.getfield 31, 3) := by decide +kernel
theorem dX5_growthOfTwo_16 : decode cX5_growthOfTwo 16 = .ok (.aload_n 0, 1) := by decide +kernel
theorem dX5_growthOfTwo_17 : decode cX5_growthOfTwo 17 = .ok (.getfield 9, 3) := by decide +kernel
theorem dX5_growthOfTwo_20 : decode cX5_growthOfTwo 20 = .ok (.iload_n 2, 1) := by decide +kernel
theorem dX5_growthOfTwo_21 : decode cX5_growthOfTwo 21 = .ok (.invokevirtual 58, 3) := by decide +kernel
theorem dX5_growthOfTwo_24 : decode cX5_growthOfTwo 24 = .ok (.iadd, 1) := by decide +kernel
theorem dX5_growthOfTwo_25 : decode cX5_growthOfTwo 25 = .ok (.ireturn, 1) := by decide +kernel
abbrev mi_X5_growthOfTwo : MI := (zTX, RX5, yX5_growthOfTwo, cX5_growthOfTwo, 3, (some .int), 10)
theorem cal_X5_growthOfTwo : zCalV mi_X5_growthOfTwo 2 := ⟨⟨zTB_i5 110 (by decide +kernel), zTB_i5 109 (by decide +kernel), zTB_i0 37 (by decide +kernel), zTB_i1 10 (by decide +kernel)⟩, ⟨by decide, by decide, by decide +kernel⟩, by decide⟩
noncomputable def X5_growthOfTwo (x1 : Int32) (x2 : Int32) (M : Mem) : Option (Int32 × Mem) :=
  bp_ (X9_growthWith 35 46 x1 M) fun v1 M2 =>
  bp_ (X9_growthWith 35 46 x2 M2) fun v3 M4 =>
  some (v1 + v3, M4)
set_option maxRecDepth 100000 in
set_option maxHeartbeats 4000000 in
theorem X5_growthOfTwo_ok (G : Gh) (x1 : Int32) (x2 : Int32) (M : Mem) : Mt G mi_X5_growthOfTwo [.ref (G.2.2.2 (41)), .int x1, .int x2] M ((dO dIM) (X5_growthOfTwo x1 x2 M)) := by
  refine Mt_of (lv := [some (.ref (G.2.2.2 (41))), some (.int x1), some (.int x2)]) (by decide) rfl (Nat.le_of_ble_eq_true rfl) rfl ?_
  unfold X5_growthOfTwo
  refine r_aload_n dX5_growthOfTwo_0 rfl ?_
  refine r_getf (v := .ref (G.2.2.2 (35))) dX5_growthOfTwo_1 fX_41_1 kX5 (by decide) lkf_X5_31 rfl ?_
  refine r_aload_n dX5_growthOfTwo_4 rfl ?_
  refine r_getf (v := .ref (G.2.2.2 (46))) dX5_growthOfTwo_5 fX_41_3 kX5 (by decide) lkf_X5_9 rfl ?_
  refine r_iload_n dX5_growthOfTwo_8 rfl ?_
  refine c_OIM rfl (inv_V (mi := mi_X5_growthOfTwo) (b := 35) (rest := []) (X9_growthWith_ok_35 G aX_46p x1 M) rfl (by decide) dX5_growthOfTwo_9 lkm_X5_58 cal_X9_growthWith cX_35 rfl rfl (Nat.le_of_ble_eq_true rfl) rfl) (fun v1 M2 => ?_)
  refine r_aload_n dX5_growthOfTwo_12 rfl ?_
  refine r_getf (v := .ref (G.2.2.2 (35))) dX5_growthOfTwo_13 fX_41_1 kX5 (by decide) lkf_X5_31 rfl ?_
  refine r_aload_n dX5_growthOfTwo_16 rfl ?_
  refine r_getf (v := .ref (G.2.2.2 (46))) dX5_growthOfTwo_17 fX_41_3 kX5 (by decide) lkf_X5_9 rfl ?_
  refine r_iload_n dX5_growthOfTwo_20 rfl ?_
  refine c_OIM rfl (inv_V (mi := mi_X5_growthOfTwo) (b := 35) (rest := [.int v1]) (X9_growthWith_ok_35 G aX_46p x2 M2) rfl (by decide) dX5_growthOfTwo_21 lkm_X5_58 cal_X9_growthWith cX_35 rfl rfl (Nat.le_of_ble_eq_true rfl) rfl) (fun v3 M4 => ?_)
  refine r_iadd dX5_growthOfTwo_24 ?_
  exact r_iret (ty := .int) dX5_growthOfTwo_25 rfl rfl rfl

theorem dX5_findBeside_0 : decode cX5_findBeside 0 = .ok (.iconst 0, 1) := by decide +kernel
theorem dX5_findBeside_1 : decode cX5_findBeside 1 = .ok (.istore 4, 2) := by decide +kernel
theorem dX5_findBeside_3 : decode cX5_findBeside 3 = .ok (.iload 4, 2) := by decide +kernel
theorem dX5_findBeside_5 : decode cX5_findBeside 5 = .ok (.iconst 3, 1) := by decide +kernel
theorem dX5_findBeside_6 : decode cX5_findBeside 6 = .ok (.if_icmp .ge 40, 3) := by decide +kernel
theorem dX5_findBeside_9 : decode cX5_findBeside 9 = .ok (.aload_n 0, 1) := by decide +kernel
theorem dX5_findBeside_10 : decode cX5_findBeside 10 = .ok (.getfield 24, 3) := by decide +kernel
theorem dX5_findBeside_13 : decode cX5_findBeside 13 = .ok (.iload 4, 2) := by decide +kernel
theorem dX5_findBeside_15 : decode cX5_findBeside 15 = .ok (.aload_n 0, 1) := by decide +kernel
theorem dX5_findBeside_16 : decode cX5_findBeside 16 = .ok (.iload_n 1, 1) := by decide +kernel
theorem dX5_findBeside_17 : decode cX5_findBeside 17 = .ok (.iload_n 2, 1) := by decide +kernel
theorem dX5_findBeside_18 : decode cX5_findBeside 18 = .ok (.iload 4, 2) := by decide +kernel
theorem dX5_findBeside_20 : decode cX5_findBeside 20 = .ok (.invokevirtual 81, 3) := by decide +kernel
theorem dX5_findBeside_23 : decode cX5_findBeside 23 = .ok (.aload_n 0, 1) := by decide +kernel
theorem dX5_findBeside_24 : decode cX5_findBeside 24 = .ok (.getfield 9, 3) := by decide +kernel
theorem dX5_findBeside_27 : decode cX5_findBeside 27 = .ok (.iload_n 1, 1) := by decide +kernel
theorem dX5_findBeside_28 : decode cX5_findBeside 28 = .ok (.iconst 3, 1) := by decide +kernel
theorem dX5_findBeside_29 : decode cX5_findBeside 29 = .ok (.imul, 1) := by decide +kernel
theorem dX5_findBeside_30 : decode cX5_findBeside 30 = .ok (.iload 4, 2) := by decide +kernel
theorem dX5_findBeside_32 : decode cX5_findBeside 32 = .ok (.iadd, 1) := by decide +kernel
theorem dX5_findBeside_33 : decode cX5_findBeside 33 = .ok (.invokestatic 107, 3) := by decide +kernel
theorem dX5_findBeside_36 : decode cX5_findBeside 36 = .ok (.isub, 1) := by decide +kernel
theorem dX5_findBeside_37 : decode cX5_findBeside 37 = .ok (.invokestatic 85, 3) := by decide +kernel
theorem dX5_findBeside_40 : decode cX5_findBeside 40 = .ok (.iinc 4 1, 3) := by decide +kernel
theorem dX5_findBeside_43 : decode cX5_findBeside 43 = .ok (.goto (-40), 3) := by decide +kernel
theorem dX5_findBeside_46 : decode cX5_findBeside 46 = .ok (.iconst 1, 1) := by decide +kernel
theorem dX5_findBeside_47 : decode cX5_findBeside 47 = .ok (.istore 4, 2) := by decide +kernel
theorem dX5_findBeside_49 : decode cX5_findBeside 49 = .ok (.iconst 0, 1) := by decide +kernel
theorem dX5_findBeside_50 : decode cX5_findBeside 50 = .ok (.istore 5, 2) := by decide +kernel
theorem dX5_findBeside_52 : decode cX5_findBeside 52 = .ok (.iload 5, 2) := by decide +kernel
theorem dX5_findBeside_54 : decode cX5_findBeside 54 = .ok (.sipush 165, 3) := by decide +kernel
theorem dX5_findBeside_57 : decode cX5_findBeside 57 = .ok (.if_icmp .ge 47, 3) := by decide +kernel
theorem dX5_findBeside_60 : decode cX5_findBeside 60 = .ok (.iload 4, 2) := by decide +kernel
theorem dX5_findBeside_62 : decode cX5_findBeside 62 = .ok (.ifCond .eq 42, 3) := by decide +kernel
theorem dX5_findBeside_65 : decode cX5_findBeside 65 = .ok (.aload_n 0, 1) := by decide +kernel
theorem dX5_findBeside_66 : decode cX5_findBeside 66 = .ok (.aload_n 0, 1) := by decide +kernel
theorem dX5_findBeside_67 : decode cX5_findBeside 67 = .ok (.iload_n 1, 1) := by decide +kernel
theorem dX5_findBeside_68 : decode cX5_findBeside 68 = .ok (.iload_n 2, 1) := by decide +kernel
theorem dX5_findBeside_69 : decode cX5_findBeside 69 = .ok (.invokevirtual 110, 3) := by decide +kernel
theorem dX5_findBeside_72 : decode cX5_findBeside 72 = .ok (.aload_n 0, 1) := by decide +kernel
theorem dX5_findBeside_73 : decode cX5_findBeside 73 = .ok (.iload_n 1, 1) := by decide +kernel
theorem dX5_findBeside_74 : decode cX5_findBeside 74 = .ok (.invokevirtual 113, 3) := by decide +kernel
theorem dX5_findBeside_77 : decode cX5_findBeside 77 = .ok (.aload_n 0, 1) := by decide +kernel
theorem dX5_findBeside_78 : decode cX5_findBeside 78 = .ok (.iload_n 2, 1) := by decide +kernel
theorem dX5_findBeside_79 : decode cX5_findBeside 79 = .ok (.invokevirtual 113, 3) := by decide +kernel
theorem dX5_findBeside_82 : decode cX5_findBeside 82 = .ok (.iadd, 1) := by decide +kernel
theorem dX5_findBeside_83 : decode cX5_findBeside 83 = .ok (.invokevirtual 116, 3) := by decide +kernel
theorem dX5_findBeside_86 : decode cX5_findBeside 86 = .ok (.aload_n 0, 1) := by decide +kernel
theorem dX5_findBeside_87 : decode cX5_findBeside 87 = .ok (.iload_n 2, 1) := by decide +kernel
theorem dX5_findBeside_88 : decode cX5_findBeside 88 = .ok (.aload_n 0, 1) := by decide +kernel
theorem dX5_findBeside_89 : decode cX5_findBeside 89 = .ok (.getfield 24, 3) := by decide +kernel
theorem dX5_findBeside_92 : decode cX5_findBeside 92 = .ok (.iload_n 3, 1) := by decide +kernel
theorem dX5_findBeside_93 : decode cX5_findBeside 93 = .ok (.invokevirtual 93, 3) := by decide +kernel
theorem dX5_findBeside_96 : decode cX5_findBeside 96 = .ok (.istore 4, 2) := by decide +kernel
theorem dX5_findBeside_98 : decode cX5_findBeside 98 = .ok (.iinc 5 1, 3) := by decide +kernel
theorem dX5_findBeside_101 : decode cX5_findBeside 101 = .ok (.goto (-49), 3) := by decide +kernel
theorem dX5_findBeside_104 : decode cX5_findBeside 104 = .ok (.return_, 1) := by decide +kernel
abbrev mi_X5_findBeside : MI := (zTX, RX5, yX5_findBeside, cX5_findBeside, 6, none, 11)
theorem cal_X5_findBeside : zCalV mi_X5_findBeside 3 := ⟨⟨zTB_i5 106 (by decide +kernel), zTB_i5 105 (by decide +kernel), zTB_i0 36 (by decide +kernel), zTB_i1 10 (by decide +kernel)⟩, ⟨by decide, by decide, by decide +kernel⟩, by decide⟩
noncomputable def X5_findBeside_L2 (x1 : Int32) (x2 : Int32) (x3 : Int32) : Nat → Int32 → Int32 → Mem → Option (Mem)
  | 0, _, _, _ => none
  | n + 1, c4, c5, M =>
    if 165 ≤ c5 then
      some M
    else
    if c4 = 0 then
      some M
    else
    bp_ (X5_growthOfTwo x1 x2 M) fun v6 M7 =>
    bo_ (X5_hoursOf x1 M7) fun v8 =>
    bo_ (X5_hoursOf x2 M7) fun v9 =>
    bo_ (X5_consider v6 (v8 + v9) M7) fun M10 =>
    bp_ (X5_nextRow x2 50 x3 M10) fun b11 M12 =>
    X5_findBeside_L2 x1 x2 x3 n (b2i (b11)) (c5 + 1) M12
noncomputable def X5_findBeside_L1 (x1 : Int32) (x2 : Int32) : Nat → Int32 → Mem → Option (Mem)
  | 0, _, _ => none
  | n + 1, c4, M =>
    if 3 ≤ c4 then
      some M
    else
    lt_ (X11_put 50 c4 ((X5_inBoth x1 x2 c4 M) - (X11_cell 46 ((x1 * 3) + c4) M)) M) fun M2 =>
    X5_findBeside_L1 x1 x2 n (c4 + 1) M2
noncomputable def X5_findBeside (x1 : Int32) (x2 : Int32) (x3 : Int32) (M : Mem) : Option (Mem) :=
  b1_ (α := Mem) (X5_findBeside_L1 x1 x2 zFU 0 M) fun M3 =>
  b1_ (α := Mem) (X5_findBeside_L2 x1 x2 x3 zFU 1 0 M3) fun M13 =>
  some M13
set_option maxRecDepth 100000 in
set_option maxHeartbeats 4000000 in
theorem X5_findBeside_L2_ok (G : Gh) (x1 : Int32) (x2 : Int32) (x3 : Int32) {dn : Option (Mem) → Option (Option Value × Mem)} (hs : dn none = none) (hx : ∀ (M13 : Mem), Wr G mi_X5_findBeside dn 104 [none, none, none, none, none, none] [] M13 (some M13)) : ∀ (n : Nat) (c4 : Int32) (c5 : Int32) (M : Mem), Wr G mi_X5_findBeside dn 52 [some (.ref (G.2.2.2 (41))), some (.int x1), some (.int x2), some (.int x3), some (.int c4), some (.int c5)] [] M (X5_findBeside_L2 x1 x2 x3 n c4 c5 M) := by
  intro n
  induction n with
  | zero => intro c4 c5 M; exact r_none (by exact hs)
  | succ n ih =>
    intro c4 c5 M
    rw [X5_findBeside_L2]
    refine r_iload dX5_findBeside_52 rfl ?_
    refine r_sipush (x := 165) dX5_findBeside_54 rfl ?_
    refine r_icmp_ge (tgt := 104) dX5_findBeside_57 rfl (fun h4 => ?_) (fun h4 => ?_)
    · exact r_lk (hx M) True.intro
    refine r_iload dX5_findBeside_60 rfl ?_
    refine r_if_eq (tgt := 104) dX5_findBeside_62 rfl (fun h5 => ?_) (fun h5 => ?_)
    · exact r_lk (hx M) True.intro
    refine r_aload_n dX5_findBeside_65 rfl ?_
    refine r_aload_n dX5_findBeside_66 rfl ?_
    refine r_iload_n dX5_findBeside_67 rfl ?_
    refine r_iload_n dX5_findBeside_68 rfl ?_
    refine c_OIM (by exact hs) (inv_V (mi := mi_X5_findBeside) (b := 41) (rest := [.ref (G.2.2.2 (41))]) (X5_growthOfTwo_ok G x1 x2 M) rfl (by decide) dX5_findBeside_69 lkm_X5_110 cal_X5_growthOfTwo cX_41 rfl rfl (Nat.le_of_ble_eq_true rfl) rfl) (fun v6 M7 => ?_)
    refine r_aload_n dX5_findBeside_72 rfl ?_
    refine r_iload_n dX5_findBeside_73 rfl ?_
    refine c_OI (by exact hs) (inv_V (mi := mi_X5_findBeside) (b := 41) (rest := [.int v6, .ref (G.2.2.2 (41))]) (X5_hoursOf_ok G x1 M7) rfl (by decide) dX5_findBeside_74 lkm_X5_113 cal_X5_hoursOf cX_41 rfl rfl (Nat.le_of_ble_eq_true rfl) rfl) (fun v8 => ?_)
    refine r_aload_n dX5_findBeside_77 rfl ?_
    refine r_iload_n dX5_findBeside_78 rfl ?_
    refine c_OI (by exact hs) (inv_V (mi := mi_X5_findBeside) (b := 41) (rest := [.int v8, .int v6, .ref (G.2.2.2 (41))]) (X5_hoursOf_ok G x2 M7) rfl (by decide) dX5_findBeside_79 lkm_X5_113 cal_X5_hoursOf cX_41 rfl rfl (Nat.le_of_ble_eq_true rfl) rfl) (fun v9 => ?_)
    refine r_iadd dX5_findBeside_82 ?_
    refine c_OV (by exact hs) (inv_V (mi := mi_X5_findBeside) (b := 41) (rest := []) (X5_consider_ok G v6 (v8 + v9) M7) rfl (by decide) dX5_findBeside_83 lkm_X5_116 cal_X5_consider cX_41 rfl rfl (Nat.le_of_ble_eq_true rfl) rfl) (fun M10 => ?_)
    refine r_aload_n dX5_findBeside_86 rfl ?_
    refine r_iload_n dX5_findBeside_87 rfl ?_
    refine r_aload_n dX5_findBeside_88 rfl ?_
    refine r_getf (v := .ref (G.2.2.2 (50))) dX5_findBeside_89 fX_41_7 kX5 (by decide) lkf_X5_24 rfl ?_
    refine r_iload_n dX5_findBeside_92 rfl ?_
    refine c_OZM (by exact hs) (inv_V (mi := mi_X5_findBeside) (b := 41) (rest := []) (X5_nextRow_ok G x2 aX_50p x3 M10) rfl (by decide) dX5_findBeside_93 lkm_X5_93 cal_X5_nextRow cX_41 rfl rfl (Nat.le_of_ble_eq_true rfl) rfl) (fun b11 M12 => ?_)
    refine r_istore (lv' := [some (.ref (G.2.2.2 (41))), some (.int x1), some (.int x2), some (.int x3), some (.int (b2i (b11))), some (.int c5)]) dX5_findBeside_96 (Nat.le_of_ble_eq_true rfl) rfl rfl ?_
    refine r_iinc (y := c5 + 1) (lv' := [some (.ref (G.2.2.2 (41))), some (.int x1), some (.int x2), some (.int x3), some (.int (b2i (b11))), some (.int (c5 + 1))]) dX5_findBeside_98 rfl rfl (Nat.le_of_ble_eq_true rfl) rfl rfl ?_
    refine r_goto (tgt := 52) dX5_findBeside_101 rfl ?_
    exact r_lk (ih (b2i (b11)) (c5 + 1) M12) (And.intro rfl (And.intro rfl (And.intro rfl (And.intro rfl (And.intro rfl (And.intro rfl True.intro))))))
set_option maxRecDepth 100000 in
set_option maxHeartbeats 4000000 in
theorem X5_findBeside_L1_ok (G : Gh) (x1 : Int32) (x2 : Int32) (x3 : Int32) {dn : Option (Mem) → Option (Option Value × Mem)} (hs : dn none = none) (hx : ∀ (M3 : Mem), Wr G mi_X5_findBeside dn 46 [some (.ref (G.2.2.2 (41))), some (.int x1), some (.int x2), some (.int x3), none, none] [] M3 (some M3)) : ∀ (n : Nat) (c4 : Int32) (M : Mem), Wr G mi_X5_findBeside dn 3 [some (.ref (G.2.2.2 (41))), some (.int x1), some (.int x2), some (.int x3), some (.int c4), none] [] M (X5_findBeside_L1 x1 x2 n c4 M) := by
  intro n
  induction n with
  | zero => intro c4 M; exact r_none (by exact hs)
  | succ n ih =>
    intro c4 M
    rw [X5_findBeside_L1]
    refine r_iload dX5_findBeside_3 rfl ?_
    refine r_iconst (x := 3) dX5_findBeside_5 rfl ?_
    refine r_icmp_ge (tgt := 46) dX5_findBeside_6 rfl (fun h1 => ?_) (fun h1 => ?_)
    · exact r_lk (hx M) (And.intro rfl (And.intro rfl (And.intro rfl (And.intro rfl True.intro))))
    refine r_aload_n dX5_findBeside_9 rfl ?_
    refine r_getf (v := .ref (G.2.2.2 (50))) dX5_findBeside_10 fX_41_7 kX5 (by decide) lkf_X5_24 rfl ?_
    refine r_iload dX5_findBeside_13 rfl ?_
    refine r_aload_n dX5_findBeside_15 rfl ?_
    refine r_iload_n dX5_findBeside_16 rfl ?_
    refine r_iload_n dX5_findBeside_17 rfl ?_
    refine r_iload dX5_findBeside_18 rfl ?_
    refine c_I (inv_V (mi := mi_X5_findBeside) (b := 41) (rest := [.int c4, .ref (G.2.2.2 (50))]) (X5_inBoth_ok G x1 x2 c4 M) rfl (by decide) dX5_findBeside_20 lkm_X5_81 cal_X5_inBoth cX_41 rfl rfl (Nat.le_of_ble_eq_true rfl) rfl) ?_
    refine r_aload_n dX5_findBeside_23 rfl ?_
    refine r_getf (v := .ref (G.2.2.2 (46))) dX5_findBeside_24 fX_41_3 kX5 (by decide) lkf_X5_9 rfl ?_
    refine r_iload_n dX5_findBeside_27 rfl ?_
    refine r_iconst (x := 3) dX5_findBeside_28 rfl ?_
    refine r_imul dX5_findBeside_29 ?_
    refine r_iload dX5_findBeside_30 rfl ?_
    refine r_iadd dX5_findBeside_32 ?_
    refine c_I (inv_SN (mi := mi_X5_findBeside) (rest := [.int ((X5_inBoth x1 x2 c4 M)), .int c4, .ref (G.2.2.2 (50))]) (X11_cell_ok G aX_46p ((x1 * 3) + c4) M) rfl (by decide) dX5_findBeside_33 lkm_X5_107 cal_X11_cell rfl (Nat.le_of_ble_eq_true rfl) rfl) ?_
    refine r_isub dX5_findBeside_36 ?_
    refine c_V (inv_SN (mi := mi_X5_findBeside) (rest := []) (X11_put_ok G aX_50p c4 ((X5_inBoth x1 x2 c4 M) - (X11_cell 46 ((x1 * 3) + c4) M)) M) rfl (by decide) dX5_findBeside_37 lkm_X5_85 cal_X11_put rfl (Nat.le_of_ble_eq_true rfl) rfl) (fun M2 => ?_)
    refine r_iinc (y := c4 + 1) (lv' := [some (.ref (G.2.2.2 (41))), some (.int x1), some (.int x2), some (.int x3), some (.int (c4 + 1)), none]) dX5_findBeside_40 rfl rfl (Nat.le_of_ble_eq_true rfl) rfl rfl ?_
    refine r_goto (tgt := 3) dX5_findBeside_43 rfl ?_
    exact r_lk (ih (c4 + 1) M2) (And.intro rfl (And.intro rfl (And.intro rfl (And.intro rfl (And.intro rfl True.intro)))))
set_option maxRecDepth 100000 in
set_option maxHeartbeats 4000000 in
theorem X5_findBeside_ok (G : Gh) (x1 : Int32) (x2 : Int32) (x3 : Int32) (M : Mem) : Mt G mi_X5_findBeside [.ref (G.2.2.2 (41)), .int x1, .int x2, .int x3] M ((dO dV) (X5_findBeside x1 x2 x3 M)) := by
  refine Mt_of (lv := [some (.ref (G.2.2.2 (41))), some (.int x1), some (.int x2), some (.int x3)]) (by decide) rfl (Nat.le_of_ble_eq_true rfl) rfl ?_
  refine r_le (lv' := [some (.ref (G.2.2.2 (41))), some (.int x1), some (.int x2), some (.int x3), none, none]) (And.intro rfl (And.intro rfl (And.intro rfl (And.intro rfl True.intro)))) ?_
  unfold X5_findBeside
  refine r_iconst (x := 0) dX5_findBeside_0 rfl ?_
  refine r_istore (lv' := [some (.ref (G.2.2.2 (41))), some (.int x1), some (.int x2), some (.int x3), some (.int 0), none]) dX5_findBeside_1 (Nat.le_of_ble_eq_true rfl) rfl rfl ?_
  refine r_jB1 (j := 46) (lvj := fun M3 => [some (.ref (G.2.2.2 (41))), some (.int x1), some (.int x2), some (.int x3), none, none]) (stj := fun M3 => []) (Mj := fun M3 => M3) (fun M3 => ?_) (fun hj46 => ?_)
  · refine r_iconst (x := 1) dX5_findBeside_46 rfl ?_
    refine r_istore (lv' := [some (.ref (G.2.2.2 (41))), some (.int x1), some (.int x2), some (.int x3), some (.int 1), none]) dX5_findBeside_47 (Nat.le_of_ble_eq_true rfl) rfl rfl ?_
    refine r_iconst (x := 0) dX5_findBeside_49 rfl ?_
    refine r_istore (lv' := [some (.ref (G.2.2.2 (41))), some (.int x1), some (.int x2), some (.int x3), some (.int 1), some (.int 0)]) dX5_findBeside_50 (Nat.le_of_ble_eq_true rfl) rfl rfl ?_
    refine r_jB1 (j := 104) (lvj := fun M13 => [none, none, none, none, none, none]) (stj := fun M13 => []) (Mj := fun M13 => M13) (fun M13 => ?_) (fun hj104 => ?_)
    · exact r_vret dX5_findBeside_104 rfl rfl
    exact r_lk (X5_findBeside_L2_ok G x1 x2 x3 rfl hj104 zFU 1 0 M3) (And.intro rfl (And.intro rfl (And.intro rfl (And.intro rfl (And.intro rfl (And.intro rfl True.intro))))))
  exact r_lk (X5_findBeside_L1_ok G x1 x2 x3 rfl hj46 zFU 0 M) (And.intro rfl (And.intro rfl (And.intro rfl (And.intro rfl (And.intro rfl True.intro)))))

theorem dX5_findPool_0 : decode cX5_findPool 0 = .ok (.aload_n 0, 1) := by decide +kernel
theorem dX5_findPool_1 : decode cX5_findPool 1 = .ok (.invokevirtual 43, 3) := by decide +kernel
theorem dX5_findPool_4 : decode cX5_findPool 4 = .ok (.aload_n 0, 1) := by decide +kernel
theorem dX5_findPool_5 : decode cX5_findPool 5 = .ok (.iconst 0, 1) := by decide +kernel
theorem dX5_findPool_6 : decode cX5_findPool 6 = .ok (.putfield 68, 3) := by decide +kernel
theorem dX5_findPool_9 : decode cX5_findPool 9 = .ok (.iconst 3, 1) := by decide +kernel
theorem dX5_findPool_10 : decode cX5_findPool 10 = .ok (.aload_n 0, 1) := by decide +kernel
theorem dX5_findPool_11 : decode cX5_findPool 11 = .ok (.getfield 31, 3) := by decide +kernel
theorem dX5_findPool_14 : decode cX5_findPool 14 = .ok (.iload_n 1, 1) := by decide +kernel
theorem dX5_findPool_15 : decode cX5_findPool 15 = .ok (.invokevirtual 72, 3) := by decide +kernel
theorem dX5_findPool_18 : decode cX5_findPool 18 = .ok (.invokestatic 75, 3) := by decide +kernel
theorem dX5_findPool_21 : decode cX5_findPool 21 = .ok (.istore_n 3, 1) := by decide +kernel
theorem dX5_findPool_22 : decode cX5_findPool 22 = .ok (.iconst 3, 1) := by decide +kernel
theorem dX5_findPool_23 : decode cX5_findPool 23 = .ok (.aload_n 0, 1) := by decide +kernel
theorem dX5_findPool_24 : decode cX5_findPool 24 = .ok (.getfield 31, 3) := by decide +kernel
theorem dX5_findPool_27 : decode cX5_findPool 27 = .ok (.iload_n 2, 1) := by decide +kernel
theorem dX5_findPool_28 : decode cX5_findPool 28 = .ok (.invokevirtual 72, 3) := by decide +kernel
theorem dX5_findPool_31 : decode cX5_findPool 31 = .ok (.invokestatic 75, 3) := by decide +kernel
theorem dX5_findPool_34 : decode cX5_findPool 34 = .ok (.istore 4, 2) := by decide +kernel
theorem dX5_findPool_36 : decode cX5_findPool 36 = .ok (.iconst 0, 1) := by decide +kernel
theorem dX5_findPool_37 : decode cX5_findPool 37 = .ok (.istore 5, 2) := by decide +kernel
theorem dX5_findPool_39 : decode cX5_findPool 39 = .ok (.iload 5, 2) := by decide +kernel
theorem dX5_findPool_41 : decode cX5_findPool 41 = .ok (.iconst 3, 1) := by decide +kernel
theorem dX5_findPool_42 : decode cX5_findPool 42 = .ok (.if_icmp .ge 26, 3) := by decide +kernel
theorem dX5_findPool_45 : decode cX5_findPool 45 = .ok (.aload_n 0, 1) := by decide +kernel
theorem dX5_findPool_46 : decode cX5_findPool 46 = .ok (.getfield 21, 3) := by decide +kernel
theorem dX5_findPool_49 : decode cX5_findPool 49 = .ok (.iload 5, 2) := by decide +kernel
theorem dX5_findPool_51 : decode cX5_findPool 51 = .ok (.aload_n 0, 1) := by decide +kernel
theorem dX5_findPool_52 : decode cX5_findPool 52 = .ok (.iload_n 1, 1) := by decide +kernel
theorem dX5_findPool_53 : decode cX5_findPool 53 = .ok (.iload_n 2, 1) := by decide +kernel
theorem dX5_findPool_54 : decode cX5_findPool 54 = .ok (.iload 5, 2) := by decide +kernel
theorem dX5_findPool_56 : decode cX5_findPool 56 = .ok (.invokevirtual 81, 3) := by decide +kernel
theorem dX5_findPool_59 : decode cX5_findPool 59 = .ok (.invokestatic 85, 3) := by decide +kernel
theorem dX5_findPool_62 : decode cX5_findPool 62 = .ok (.iinc 5 1, 3) := by decide +kernel
theorem dX5_findPool_65 : decode cX5_findPool 65 = .ok (.goto (-26), 3) := by decide +kernel
theorem dX5_findPool_68 : decode cX5_findPool 68 = .ok (.iconst 1, 1) := by decide +kernel
theorem dX5_findPool_69 : decode cX5_findPool 69 = .ok (.istore 5, 2) := by decide +kernel
theorem dX5_findPool_71 : decode cX5_findPool 71 = .ok (.iconst 0, 1) := by decide +kernel
theorem dX5_findPool_72 : decode cX5_findPool 72 = .ok (.istore 6, 2) := by decide +kernel
theorem dX5_findPool_74 : decode cX5_findPool 74 = .ok (.iload 6, 2) := by decide +kernel
theorem dX5_findPool_76 : decode cX5_findPool 76 = .ok (.sipush 165, 3) := by decide +kernel
theorem dX5_findPool_79 : decode cX5_findPool 79 = .ok (.if_icmp .ge 34, 3) := by decide +kernel
theorem dX5_findPool_82 : decode cX5_findPool 82 = .ok (.iload 5, 2) := by decide +kernel
theorem dX5_findPool_84 : decode cX5_findPool 84 = .ok (.ifCond .eq 29, 3) := by decide +kernel
theorem dX5_findPool_87 : decode cX5_findPool 87 = .ok (.aload_n 0, 1) := by decide +kernel
theorem dX5_findPool_88 : decode cX5_findPool 88 = .ok (.iload_n 1, 1) := by decide +kernel
theorem dX5_findPool_89 : decode cX5_findPool 89 = .ok (.iload_n 2, 1) := by decide +kernel
theorem dX5_findPool_90 : decode cX5_findPool 90 = .ok (.iload 4, 2) := by decide +kernel
theorem dX5_findPool_92 : decode cX5_findPool 92 = .ok (.invokevirtual 89, 3) := by decide +kernel
theorem dX5_findPool_95 : decode cX5_findPool 95 = .ok (.aload_n 0, 1) := by decide +kernel
theorem dX5_findPool_96 : decode cX5_findPool 96 = .ok (.iload_n 1, 1) := by decide +kernel
theorem dX5_findPool_97 : decode cX5_findPool 97 = .ok (.aload_n 0, 1) := by decide +kernel
theorem dX5_findPool_98 : decode cX5_findPool 98 = .ok (.getfield 21, 3) := by decide +kernel
theorem dX5_findPool_101 : decode cX5_findPool 101 = .ok (.iload_n 3, 1) := by decide +kernel
theorem dX5_findPool_102 : decode cX5_findPool 102 = .ok (.invokevirtual 93, 3) := by decide +kernel
theorem dX5_findPool_105 : decode cX5_findPool 105 = .ok (.istore 5, 2) := by decide +kernel
theorem dX5_findPool_107 : decode cX5_findPool 107 = .ok (.iinc 6 1, 3) := by decide +kernel
theorem dX5_findPool_110 : decode cX5_findPool 110 = .ok (.goto (-36), 3) := by decide +kernel
theorem dX5_findPool_113 : decode cX5_findPool 113 = .ok (.aload_n 0, 1) := by decide +kernel
theorem dX5_findPool_114 : decode cX5_findPool 114 = .ok (.getfield 15, 3) := by decide +kernel
theorem dX5_findPool_117 : decode cX5_findPool 117 = .ok (.aload_n 0, 1) := by decide +kernel
theorem dX5_findPool_118 : decode cX5_findPool 118 = .ok (.getfield 9, 3) := by decide +kernel
theorem dX5_findPool_121 : decode cX5_findPool 121 = .ok (.invokestatic 97, 3) := by decide +kernel
theorem dX5_findPool_124 : decode cX5_findPool 124 = .ok (.aload_n 0, 1) := by decide +kernel
theorem dX5_findPool_125 : decode cX5_findPool 125 = .ok (.getfield 101, 3) := by decide +kernel
theorem dX5_findPool_128 : decode cX5_findPool 128 = .ok (.ireturn, 1) := by decide +kernel
abbrev mi_X5_findPool : MI := (zTX, RX5, yX5_findPool, cX5_findPool, 7, (some .int), 12)
theorem cal_X5_findPool : zCalV mi_X5_findPool 2 := ⟨⟨zTB_i5 97 (by decide +kernel), zTB_i5 95 (by decide +kernel), zTB_i5 96 (by decide +kernel), zTB_i1 10 (by decide +kernel)⟩, ⟨by decide, by decide, by decide +kernel⟩, by decide⟩
noncomputable def X5_findPool_L2 (x1 : Int32) (x2 : Int32) (y3 : Int32) (y4 : Int32) : Nat → Int32 → Int32 → Mem → Option (Mem)
  | 0, _, _, _ => none
  | n + 1, c5, c6, M =>
    if 165 ≤ c6 then
      some M
    else
    if c5 = 0 then
      some M
    else
    bo_ (X5_findBeside x1 x2 y4 M) fun M10 =>
    bp_ (X5_nextRow x1 49 y3 M10) fun b11 M12 =>
    X5_findPool_L2 x1 x2 y3 y4 n (b2i (b11)) (c6 + 1) M12
noncomputable def X5_findPool_L1 (x1 : Int32) (x2 : Int32) : Nat → Int32 → Mem → Option (Mem)
  | 0, _, _ => none
  | n + 1, c5, M =>
    if 3 ≤ c5 then
      some M
    else
    lt_ (X11_put 49 c5 (X5_inBoth x1 x2 c5 M) M) fun M6 =>
    X5_findPool_L1 x1 x2 n (c5 + 1) M6
noncomputable def X5_findPool (x1 : Int32) (x2 : Int32) (M : Mem) : Option (Int32 × Mem) :=
  bo_ (X5_clearRows M) fun M1 =>
  lt_ (uI M1 41 8 0) fun M2 =>
  lt_ (α := Int32) ((if (X9_leftOf 35 x1 M2) < 3 then (X9_leftOf 35 x1 M2) else 3)) fun y3 =>
  lt_ (α := Int32) ((if (X9_leftOf 35 x2 M2) < 3 then (X9_leftOf 35 x2 M2) else 3)) fun y4 =>
  b1_ (α := Mem) (X5_findPool_L1 x1 x2 zFU 0 M2) fun M7 =>
  b1_ (α := Mem) (X5_findPool_L2 x1 x2 y3 y4 zFU 1 0 M7) fun M13 =>
  bo_ (X11_copyInts 47 46 M13) fun M14 =>
  some (M14.1 41 9, M14)
set_option maxRecDepth 100000 in
set_option maxHeartbeats 4000000 in
theorem X5_findPool_L2_ok (G : Gh) (x1 : Int32) (x2 : Int32) (y3 : Int32) (y4 : Int32) {dn : Option (Mem) → Option (Option Value × Mem)} (hs : dn none = none) (hx : ∀ (M13 : Mem), Wr G mi_X5_findPool dn 113 [some (.ref (G.2.2.2 (41))), none, none, none, none, none, none] [] M13 (some M13)) : ∀ (n : Nat) (c5 : Int32) (c6 : Int32) (M : Mem), Wr G mi_X5_findPool dn 74 [some (.ref (G.2.2.2 (41))), some (.int x1), some (.int x2), some (.int y3), some (.int y4), some (.int c5), some (.int c6)] [] M (X5_findPool_L2 x1 x2 y3 y4 n c5 c6 M) := by
  intro n
  induction n with
  | zero => intro c5 c6 M; exact r_none (by exact hs)
  | succ n ih =>
    intro c5 c6 M
    rw [X5_findPool_L2]
    refine r_iload dX5_findPool_74 rfl ?_
    refine r_sipush (x := 165) dX5_findPool_76 rfl ?_
    refine r_icmp_ge (tgt := 113) dX5_findPool_79 rfl (fun h8 => ?_) (fun h8 => ?_)
    · exact r_lk (hx M) (And.intro rfl True.intro)
    refine r_iload dX5_findPool_82 rfl ?_
    refine r_if_eq (tgt := 113) dX5_findPool_84 rfl (fun h9 => ?_) (fun h9 => ?_)
    · exact r_lk (hx M) (And.intro rfl True.intro)
    refine r_aload_n dX5_findPool_87 rfl ?_
    refine r_iload_n dX5_findPool_88 rfl ?_
    refine r_iload_n dX5_findPool_89 rfl ?_
    refine r_iload dX5_findPool_90 rfl ?_
    refine c_OV (by exact hs) (inv_V (mi := mi_X5_findPool) (b := 41) (rest := []) (X5_findBeside_ok G x1 x2 y4 M) rfl (by decide) dX5_findPool_92 lkm_X5_89 cal_X5_findBeside cX_41 rfl rfl (Nat.le_of_ble_eq_true rfl) rfl) (fun M10 => ?_)
    refine r_aload_n dX5_findPool_95 rfl ?_
    refine r_iload_n dX5_findPool_96 rfl ?_
    refine r_aload_n dX5_findPool_97 rfl ?_
    refine r_getf (v := .ref (G.2.2.2 (49))) dX5_findPool_98 fX_41_6 kX5 (by decide) lkf_X5_21 rfl ?_
    refine r_iload_n dX5_findPool_101 rfl ?_
    refine c_OZM (by exact hs) (inv_V (mi := mi_X5_findPool) (b := 41) (rest := []) (X5_nextRow_ok G x1 aX_49p y3 M10) rfl (by decide) dX5_findPool_102 lkm_X5_93 cal_X5_nextRow cX_41 rfl rfl (Nat.le_of_ble_eq_true rfl) rfl) (fun b11 M12 => ?_)
    refine r_istore (lv' := [some (.ref (G.2.2.2 (41))), some (.int x1), some (.int x2), some (.int y3), some (.int y4), some (.int (b2i (b11))), some (.int c6)]) dX5_findPool_105 (Nat.le_of_ble_eq_true rfl) rfl rfl ?_
    refine r_iinc (y := c6 + 1) (lv' := [some (.ref (G.2.2.2 (41))), some (.int x1), some (.int x2), some (.int y3), some (.int y4), some (.int (b2i (b11))), some (.int (c6 + 1))]) dX5_findPool_107 rfl rfl (Nat.le_of_ble_eq_true rfl) rfl rfl ?_
    refine r_goto (tgt := 74) dX5_findPool_110 rfl ?_
    exact r_lk (ih (b2i (b11)) (c6 + 1) M12) (And.intro rfl (And.intro rfl (And.intro rfl (And.intro rfl (And.intro rfl (And.intro rfl (And.intro rfl True.intro)))))))
set_option maxRecDepth 100000 in
set_option maxHeartbeats 4000000 in
theorem X5_findPool_L1_ok (G : Gh) (x1 : Int32) (x2 : Int32) (y3 : Int32) (y4 : Int32) {dn : Option (Mem) → Option (Option Value × Mem)} (hs : dn none = none) (hx : ∀ (M7 : Mem), Wr G mi_X5_findPool dn 68 [some (.ref (G.2.2.2 (41))), some (.int x1), some (.int x2), some (.int y3), some (.int y4), none, none] [] M7 (some M7)) : ∀ (n : Nat) (c5 : Int32) (M : Mem), Wr G mi_X5_findPool dn 39 [some (.ref (G.2.2.2 (41))), some (.int x1), some (.int x2), some (.int y3), some (.int y4), some (.int c5), none] [] M (X5_findPool_L1 x1 x2 n c5 M) := by
  intro n
  induction n with
  | zero => intro c5 M; exact r_none (by exact hs)
  | succ n ih =>
    intro c5 M
    rw [X5_findPool_L1]
    refine r_iload dX5_findPool_39 rfl ?_
    refine r_iconst (x := 3) dX5_findPool_41 rfl ?_
    refine r_icmp_ge (tgt := 68) dX5_findPool_42 rfl (fun h5 => ?_) (fun h5 => ?_)
    · exact r_lk (hx M) (And.intro rfl (And.intro rfl (And.intro rfl (And.intro rfl (And.intro rfl True.intro)))))
    refine r_aload_n dX5_findPool_45 rfl ?_
    refine r_getf (v := .ref (G.2.2.2 (49))) dX5_findPool_46 fX_41_6 kX5 (by decide) lkf_X5_21 rfl ?_
    refine r_iload dX5_findPool_49 rfl ?_
    refine r_aload_n dX5_findPool_51 rfl ?_
    refine r_iload_n dX5_findPool_52 rfl ?_
    refine r_iload_n dX5_findPool_53 rfl ?_
    refine r_iload dX5_findPool_54 rfl ?_
    refine c_I (inv_V (mi := mi_X5_findPool) (b := 41) (rest := [.int c5, .ref (G.2.2.2 (49))]) (X5_inBoth_ok G x1 x2 c5 M) rfl (by decide) dX5_findPool_56 lkm_X5_81 cal_X5_inBoth cX_41 rfl rfl (Nat.le_of_ble_eq_true rfl) rfl) ?_
    refine c_V (inv_SN (mi := mi_X5_findPool) (rest := []) (X11_put_ok G aX_49p c5 (X5_inBoth x1 x2 c5 M) M) rfl (by decide) dX5_findPool_59 lkm_X5_85 cal_X11_put rfl (Nat.le_of_ble_eq_true rfl) rfl) (fun M6 => ?_)
    refine r_iinc (y := c5 + 1) (lv' := [some (.ref (G.2.2.2 (41))), some (.int x1), some (.int x2), some (.int y3), some (.int y4), some (.int (c5 + 1)), none]) dX5_findPool_62 rfl rfl (Nat.le_of_ble_eq_true rfl) rfl rfl ?_
    refine r_goto (tgt := 39) dX5_findPool_65 rfl ?_
    exact r_lk (ih (c5 + 1) M6) (And.intro rfl (And.intro rfl (And.intro rfl (And.intro rfl (And.intro rfl (And.intro rfl True.intro))))))
set_option maxRecDepth 100000 in
set_option maxHeartbeats 4000000 in
theorem X5_findPool_ok (G : Gh) (x1 : Int32) (x2 : Int32) (M : Mem) : Mt G mi_X5_findPool [.ref (G.2.2.2 (41)), .int x1, .int x2] M ((dO dIM) (X5_findPool x1 x2 M)) := by
  refine Mt_of (lv := [some (.ref (G.2.2.2 (41))), some (.int x1), some (.int x2)]) (by decide) rfl (Nat.le_of_ble_eq_true rfl) rfl ?_
  refine r_le (lv' := [some (.ref (G.2.2.2 (41))), some (.int x1), some (.int x2), none, none, none, none]) (And.intro rfl (And.intro rfl (And.intro rfl True.intro))) ?_
  unfold X5_findPool
  refine r_aload_n dX5_findPool_0 rfl ?_
  refine c_OV rfl (inv_V (mi := mi_X5_findPool) (b := 41) (rest := []) (X5_clearRows_ok G M) rfl (by decide) dX5_findPool_1 lkm_X5_43 cal_X5_clearRows cX_41 rfl rfl (Nat.le_of_ble_eq_true rfl) rfl) (fun M1 => ?_)
  refine r_aload_n dX5_findPool_4 rfl ?_
  refine r_iconst (x := 0) dX5_findPool_5 rfl ?_
  refine r_putI dX5_findPool_6 fX_41_8 kX5 (by decide) rfl rfl lkf_X5_68 (fun _ => rfl) rfl rfl (fun M2 => ?_)
  refine r_iconst (x := 3) dX5_findPool_9 rfl ?_
  refine r_aload_n dX5_findPool_10 rfl ?_
  refine r_getf (v := .ref (G.2.2.2 (35))) dX5_findPool_11 fX_41_1 kX5 (by decide) lkf_X5_31 rfl ?_
  refine r_iload_n dX5_findPool_14 rfl ?_
  refine c_I (inv_V (mi := mi_X5_findPool) (b := 35) (rest := [.int 3]) (X9_leftOf_ok_35 G x1 M2) rfl (by decide) dX5_findPool_15 lkm_X5_72 cal_X9_leftOf cX_35 rfl rfl (Nat.le_of_ble_eq_true rfl) rfl) ?_
  refine r_min dX5_findPool_18 lkm_X5_75 tw_mmin1 tw_m2 tw_mmin3 (by decide) (Nat.le_of_ble_eq_true rfl) ?_
  refine r_letI (fun y3 => ?_)
  refine r_istore_n (lv' := [some (.ref (G.2.2.2 (41))), some (.int x1), some (.int x2), some (.int y3), none, none, none]) dX5_findPool_21 (Nat.le_of_ble_eq_true rfl) rfl rfl ?_
  refine r_iconst (x := 3) dX5_findPool_22 rfl ?_
  refine r_aload_n dX5_findPool_23 rfl ?_
  refine r_getf (v := .ref (G.2.2.2 (35))) dX5_findPool_24 fX_41_1 kX5 (by decide) lkf_X5_31 rfl ?_
  refine r_iload_n dX5_findPool_27 rfl ?_
  refine c_I (inv_V (mi := mi_X5_findPool) (b := 35) (rest := [.int 3]) (X9_leftOf_ok_35 G x2 M2) rfl (by decide) dX5_findPool_28 lkm_X5_72 cal_X9_leftOf cX_35 rfl rfl (Nat.le_of_ble_eq_true rfl) rfl) ?_
  refine r_min dX5_findPool_31 lkm_X5_75 tw_mmin1 tw_m2 tw_mmin3 (by decide) (Nat.le_of_ble_eq_true rfl) ?_
  refine r_letI (fun y4 => ?_)
  refine r_istore (lv' := [some (.ref (G.2.2.2 (41))), some (.int x1), some (.int x2), some (.int y3), some (.int y4), none, none]) dX5_findPool_34 (Nat.le_of_ble_eq_true rfl) rfl rfl ?_
  refine r_iconst (x := 0) dX5_findPool_36 rfl ?_
  refine r_istore (lv' := [some (.ref (G.2.2.2 (41))), some (.int x1), some (.int x2), some (.int y3), some (.int y4), some (.int 0), none]) dX5_findPool_37 (Nat.le_of_ble_eq_true rfl) rfl rfl ?_
  refine r_jB1 (j := 68) (lvj := fun M7 => [some (.ref (G.2.2.2 (41))), some (.int x1), some (.int x2), some (.int y3), some (.int y4), none, none]) (stj := fun M7 => []) (Mj := fun M7 => M7) (fun M7 => ?_) (fun hj68 => ?_)
  · refine r_iconst (x := 1) dX5_findPool_68 rfl ?_
    refine r_istore (lv' := [some (.ref (G.2.2.2 (41))), some (.int x1), some (.int x2), some (.int y3), some (.int y4), some (.int 1), none]) dX5_findPool_69 (Nat.le_of_ble_eq_true rfl) rfl rfl ?_
    refine r_iconst (x := 0) dX5_findPool_71 rfl ?_
    refine r_istore (lv' := [some (.ref (G.2.2.2 (41))), some (.int x1), some (.int x2), some (.int y3), some (.int y4), some (.int 1), some (.int 0)]) dX5_findPool_72 (Nat.le_of_ble_eq_true rfl) rfl rfl ?_
    refine r_jB1 (j := 113) (lvj := fun M13 => [some (.ref (G.2.2.2 (41))), none, none, none, none, none, none]) (stj := fun M13 => []) (Mj := fun M13 => M13) (fun M13 => ?_) (fun hj113 => ?_)
    · refine r_aload_n dX5_findPool_113 rfl ?_
      refine r_getf (v := .ref (G.2.2.2 (47))) dX5_findPool_114 fX_41_4 kX5 (by decide) lkf_X5_15 rfl ?_
      refine r_aload_n dX5_findPool_117 rfl ?_
      refine r_getf (v := .ref (G.2.2.2 (46))) dX5_findPool_118 fX_41_3 kX5 (by decide) lkf_X5_9 rfl ?_
      refine c_OV rfl (inv_SN (mi := mi_X5_findPool) (rest := []) (X11_copyInts_ok G aX_47p aX_46p M13) rfl (by decide) dX5_findPool_121 lkm_X5_97 cal_X11_copyInts rfl (Nat.le_of_ble_eq_true rfl) rfl) (fun M14 => ?_)
      refine r_aload_n dX5_findPool_124 rfl ?_
      refine r_getf (v := .int (M14.1 41 9)) dX5_findPool_125 fX_41_9 kX5 (by decide) lkf_X5_101 rfl ?_
      exact r_iret (ty := .int) dX5_findPool_128 rfl rfl rfl
    exact r_lk (X5_findPool_L2_ok G x1 x2 y3 y4 rfl hj113 zFU 1 0 M7) (And.intro rfl (And.intro rfl (And.intro rfl (And.intro rfl (And.intro rfl (And.intro rfl (And.intro rfl True.intro)))))))
  exact r_lk (X5_findPool_L1_ok G x1 x2 y3 y4 rfl hj68 zFU 0 M2) (And.intro rfl (And.intro rfl (And.intro rfl (And.intro rfl (And.intro rfl (And.intro rfl True.intro))))))

theorem dX11_pool_0 : decode cX11_pool 0 = .ok (.aload_n 0, 1) := by decide +kernel
theorem dX11_pool_1 : decode cX11_pool 1 = .ok (.getfield 62, 3) := by decide +kernel
theorem dX11_pool_4 : decode cX11_pool 4 = .ok (.invokevirtual 105, 3) := by decide +kernel
theorem dX11_pool_7 : decode cX11_pool 7 = .ok (.aload_n 0, 1) := by decide +kernel
theorem dX11_pool_8 : decode cX11_pool 8 = .ok (.getfield 28, 3) := by decide +kernel
theorem dX11_pool_11 : decode cX11_pool 11 = .ok (.iload_n 1, 1) := by decide +kernel
theorem dX11_pool_12 : decode cX11_pool 12 = .ok (.iload_n 2, 1) := by decide +kernel
theorem dX11_pool_13 : decode cX11_pool 13 = .ok (.invokevirtual 223, 3) := by decide +kernel
theorem dX11_pool_16 : decode cX11_pool 16 = .ok (.ifCond .ne 6, 3) := by decide +kernel
theorem dX11_pool_19 : decode cX11_pool 19 = .ok (.ldc 123, 2) := by decide +kernel
theorem dX11_pool_21 : decode cX11_pool 21 = .ok (.ireturn, 1) := by decide +kernel
theorem dX11_pool_22 : decode cX11_pool 22 = .ok (.aload_n 0, 1) := by decide +kernel
theorem dX11_pool_23 : decode cX11_pool 23 = .ok (.getfield 55, 3) := by decide +kernel
theorem dX11_pool_26 : decode cX11_pool 26 = .ok (.iload_n 1, 1) := by decide +kernel
theorem dX11_pool_27 : decode cX11_pool 27 = .ok (.iload_n 2, 1) := by decide +kernel
theorem dX11_pool_28 : decode cX11_pool 28 = .ok (.invokevirtual 226, 3) := by decide +kernel
theorem dX11_pool_31 : decode cX11_pool 31 = .ok (.istore_n 3, 1) := by decide +kernel
theorem dX11_pool_32 : decode cX11_pool 32 = .ok (.aload_n 0, 1) := by decide +kernel
theorem dX11_pool_33 : decode cX11_pool 33 = .ok (.getfield 62, 3) := by decide +kernel
theorem dX11_pool_36 : decode cX11_pool 36 = .ok (.aload_n 0, 1) := by decide +kernel
theorem dX11_pool_37 : decode cX11_pool 37 = .ok (.getfield 55, 3) := by decide +kernel
theorem dX11_pool_40 : decode cX11_pool 40 = .ok (.getfield 201, 3) := by decide +kernel
theorem dX11_pool_43 : decode cX11_pool 43 = .ok (.iload_n 1, 1) := by decide +kernel
theorem dX11_pool_44 : decode cX11_pool 44 = .ok (.aload_n 0, 1) := by decide +kernel
theorem dX11_pool_45 : decode cX11_pool 45 = .ok (.getfield 28, 3) := by decide +kernel
theorem dX11_pool_48 : decode cX11_pool 48 = .ok (.getfield 204, 3) := by decide +kernel
theorem dX11_pool_51 : decode cX11_pool 51 = .ok (.invokevirtual 207, 3) := by decide +kernel
theorem dX11_pool_54 : decode cX11_pool 54 = .ok (.aload_n 0, 1) := by decide +kernel
theorem dX11_pool_55 : decode cX11_pool 55 = .ok (.getfield 62, 3) := by decide +kernel
theorem dX11_pool_58 : decode cX11_pool 58 = .ok (.aload_n 0, 1) := by decide +kernel
theorem dX11_pool_59 : decode cX11_pool 59 = .ok (.getfield 55, 3) := by decide +kernel
theorem dX11_pool_62 : decode cX11_pool 62 = .ok (.getfield 201, 3) := by decide +kernel
theorem dX11_pool_65 : decode cX11_pool 65 = .ok (.iload_n 2, 1) := by decide +kernel
theorem dX11_pool_66 : decode cX11_pool 66 = .ok (.aload_n 0, 1) := by decide +kernel
theorem dX11_pool_67 : decode cX11_pool 67 = .ok (.getfield 28, 3) := by decide +kernel
theorem dX11_pool_70 : decode cX11_pool 70 = .ok (.getfield 204, 3) := by decide +kernel
theorem dX11_pool_73 : decode cX11_pool 73 = .ok (.invokevirtual 207, 3) := by decide +kernel
theorem dX11_pool_76 : decode cX11_pool 76 = .ok (.iload_n 3, 1) := by decide +kernel
theorem dX11_pool_77 : decode cX11_pool 77 = .ok (.ireturn, 1) := by decide +kernel
abbrev mi_X11_pool : MI := (zTX, RX11, yX11_pool, cX11_pool, 4, (some .int), 13)
theorem cal_X11_pool : zCalV mi_X11_pool 2 := ⟨⟨zTB_i5 89 (by decide +kernel), zTB_i5 87 (by decide +kernel), zTB_i5 88 (by decide +kernel), zTB_i1 1 (by decide +kernel)⟩, ⟨by decide, by decide, by decide +kernel⟩, by decide⟩
noncomputable def X11_pool (x1 : Int32) (x2 : Int32) (M : Mem) : Option (Int32 × Mem) :=
  lt_ (X7_clear M) fun M1 =>
  if (X3_hasTwo 23 x1 x2 M1) = true then
    bp_ (X5_findPool x1 x2 M1) fun v3 M4 =>
    bo_ (X7_layRow 46 x1 (M4.1 23 1) M4) fun M5 =>
    bo_ (X7_layRow 46 x2 (M5.1 23 1) M5) fun M6 =>
    some (v3, M6)
  else
  some ((-1000000), M1)
set_option maxRecDepth 100000 in
set_option maxHeartbeats 4000000 in
theorem X11_pool_ok (G : Gh) (x1 : Int32) (x2 : Int32) (M : Mem) : Mt G mi_X11_pool [.ref (G.2.2.2 (0)), .int x1, .int x2] M ((dO dIM) (X11_pool x1 x2 M)) := by
  refine Mt_of (lv := [some (.ref (G.2.2.2 (0))), some (.int x1), some (.int x2)]) (by decide) rfl (Nat.le_of_ble_eq_true rfl) rfl ?_
  refine r_le (lv' := [some (.ref (G.2.2.2 (0))), some (.int x1), some (.int x2), none]) (And.intro rfl (And.intro rfl (And.intro rfl True.intro))) ?_
  unfold X11_pool
  refine r_aload_n dX11_pool_0 rfl ?_
  refine r_getf (v := .ref (G.2.2.2 (51))) dX11_pool_1 fX_0_6 kX11 (by decide) lkf_X11_62 rfl ?_
  refine c_V (inv_V (mi := mi_X11_pool) (b := 51) (rest := []) (X7_clear_ok G M) rfl (by decide) dX11_pool_4 lkm_X11_105 cal_X7_clear cX_51 rfl rfl (Nat.le_of_ble_eq_true rfl) rfl) (fun M1 => ?_)
  refine r_aload_n dX11_pool_7 rfl ?_
  refine r_getf (v := .ref (G.2.2.2 (23))) dX11_pool_8 fX_0_2 kX11 (by decide) lkf_X11_28 rfl ?_
  refine r_iload_n dX11_pool_11 rfl ?_
  refine r_iload_n dX11_pool_12 rfl ?_
  refine c_Z (inv_V (mi := mi_X11_pool) (b := 23) (rest := []) (X3_hasTwo_ok_23 G x1 x2 M1) rfl (by decide) dX11_pool_13 lkm_X11_223 cal_X3_hasTwo cX_23 rfl rfl (Nat.le_of_ble_eq_true rfl) rfl) ?_
  refine r_ifz_ne (tgt := 22) dX11_pool_16 rfl (fun h2 => ?_) (fun h2 => ?_)
  · refine r_aload_n dX11_pool_22 rfl ?_
    refine r_getf (v := .ref (G.2.2.2 (41))) dX11_pool_23 fX_0_5 kX11 (by decide) lkf_X11_55 rfl ?_
    refine r_iload_n dX11_pool_26 rfl ?_
    refine r_iload_n dX11_pool_27 rfl ?_
    refine c_OIM rfl (inv_V (mi := mi_X11_pool) (b := 41) (rest := []) (X5_findPool_ok G x1 x2 M1) rfl (by decide) dX11_pool_28 lkm_X11_226 cal_X5_findPool cX_41 rfl rfl (Nat.le_of_ble_eq_true rfl) rfl) (fun v3 M4 => ?_)
    refine r_istore_n (lv' := [some (.ref (G.2.2.2 (0))), some (.int x1), some (.int x2), some (.int v3)]) dX11_pool_31 (Nat.le_of_ble_eq_true rfl) rfl rfl ?_
    refine r_aload_n dX11_pool_32 rfl ?_
    refine r_getf (v := .ref (G.2.2.2 (51))) dX11_pool_33 fX_0_6 kX11 (by decide) lkf_X11_62 rfl ?_
    refine r_aload_n dX11_pool_36 rfl ?_
    refine r_getf (v := .ref (G.2.2.2 (41))) dX11_pool_37 fX_0_5 kX11 (by decide) lkf_X11_55 rfl ?_
    refine r_getf (v := .ref (G.2.2.2 (46))) dX11_pool_40 fX_41_3 kX5 (by decide) lkf_X11_201 rfl ?_
    refine r_iload_n dX11_pool_43 rfl ?_
    refine r_aload_n dX11_pool_44 rfl ?_
    refine r_getf (v := .ref (G.2.2.2 (23))) dX11_pool_45 fX_0_2 kX11 (by decide) lkf_X11_28 rfl ?_
    refine r_getf (v := .int (M4.1 23 1)) dX11_pool_48 fX_23_1 kX3 (by decide) lkf_X11_204 rfl ?_
    refine c_OV rfl (inv_V (mi := mi_X11_pool) (b := 51) (rest := []) (X7_layRow_ok G aX_46p x1 (M4.1 23 1) M4) rfl (by decide) dX11_pool_51 lkm_X11_207 cal_X7_layRow cX_51 rfl rfl (Nat.le_of_ble_eq_true rfl) rfl) (fun M5 => ?_)
    refine r_aload_n dX11_pool_54 rfl ?_
    refine r_getf (v := .ref (G.2.2.2 (51))) dX11_pool_55 fX_0_6 kX11 (by decide) lkf_X11_62 rfl ?_
    refine r_aload_n dX11_pool_58 rfl ?_
    refine r_getf (v := .ref (G.2.2.2 (41))) dX11_pool_59 fX_0_5 kX11 (by decide) lkf_X11_55 rfl ?_
    refine r_getf (v := .ref (G.2.2.2 (46))) dX11_pool_62 fX_41_3 kX5 (by decide) lkf_X11_201 rfl ?_
    refine r_iload_n dX11_pool_65 rfl ?_
    refine r_aload_n dX11_pool_66 rfl ?_
    refine r_getf (v := .ref (G.2.2.2 (23))) dX11_pool_67 fX_0_2 kX11 (by decide) lkf_X11_28 rfl ?_
    refine r_getf (v := .int (M5.1 23 1)) dX11_pool_70 fX_23_1 kX3 (by decide) lkf_X11_204 rfl ?_
    refine c_OV rfl (inv_V (mi := mi_X11_pool) (b := 51) (rest := []) (X7_layRow_ok G aX_46p x2 (M5.1 23 1) M5) rfl (by decide) dX11_pool_73 lkm_X11_207 cal_X7_layRow cX_51 rfl rfl (Nat.le_of_ble_eq_true rfl) rfl) (fun M6 => ?_)
    refine r_iload_n dX11_pool_76 rfl ?_
    exact r_iret (ty := .int) dX11_pool_77 rfl rfl rfl
  refine r_ldcI (x := (-1000000)) dX11_pool_19 lkc_X11_123 ?_
  exact r_iret (ty := .int) dX11_pool_21 rfl rfl rfl

theorem dX5_bestInTurn_0 : decode cX5_bestInTurn 0 = .ok (.aload_n 0, 1) := by decide +kernel
theorem dX5_bestInTurn_1 : decode cX5_bestInTurn 1 = .ok (.invokevirtual 43, 3) := by decide +kernel
theorem dX5_bestInTurn_4 : decode cX5_bestInTurn 4 = .ok (.aload_n 0, 1) := by decide +kernel
theorem dX5_bestInTurn_5 : decode cX5_bestInTurn 5 = .ok (.aload_n 0, 1) := by decide +kernel
theorem dX5_bestInTurn_6 : decode cX5_bestInTurn 6 = .ok (.getfield 31, 3) := by decide +kernel
theorem dX5_bestInTurn_9 : decode cX5_bestInTurn 9 = .ok (.iload_n 1, 1) := by decide +kernel
theorem dX5_bestInTurn_10 : decode cX5_bestInTurn 10 = .ok (.iconst 0, 1) := by decide +kernel
theorem dX5_bestInTurn_11 : decode cX5_bestInTurn 11 = .ok (.iconst 0, 1) := by decide +kernel
theorem dX5_bestInTurn_12 : decode cX5_bestInTurn 12 = .ok (.invokevirtual 46, 3) := by decide +kernel
theorem dX5_bestInTurn_15 : decode cX5_bestInTurn 15 = .ok (.pop, 1) := by decide +kernel
theorem dX5_bestInTurn_16 : decode cX5_bestInTurn 16 = .ok (.aload_n 0, 1) := by decide +kernel
theorem dX5_bestInTurn_17 : decode cX5_bestInTurn 17 = .ok (.aload_n 0, 1) := by decide +kernel
theorem dX5_bestInTurn_18 : decode cX5_bestInTurn 18 = .ok (.getfield 31, 3) := by decide +kernel
theorem dX5_bestInTurn_21 : decode cX5_bestInTurn 21 = .ok (.iload_n 2, 1) := by decide +kernel
theorem dX5_bestInTurn_22 : decode cX5_bestInTurn 22 = .ok (.iconst 0, 1) := by decide +kernel
theorem dX5_bestInTurn_23 : decode cX5_bestInTurn 23 = .ok (.iconst 0, 1) := by decide +kernel
theorem dX5_bestInTurn_24 : decode cX5_bestInTurn 24 = .ok (.invokevirtual 46, 3) := by decide +kernel
theorem dX5_bestInTurn_27 : decode cX5_bestInTurn 27 = .ok (.pop, 1) := by decide +kernel
theorem dX5_bestInTurn_28 : decode cX5_bestInTurn 28 = .ok (.aload_n 0, 1) := by decide +kernel
theorem dX5_bestInTurn_29 : decode cX5_bestInTurn 29 = .ok (.iload_n 1, 1) := by decide +kernel
theorem dX5_bestInTurn_30 : decode cX5_bestInTurn 30 = .ok (.iload_n 2, 1) := by decide +kernel
theorem dX5_bestInTurn_31 : decode cX5_bestInTurn 31 = .ok (.invokevirtual 110, 3) := by decide +kernel
theorem dX5_bestInTurn_34 : decode cX5_bestInTurn 34 = .ok (.ireturn, 1) := by decide +kernel
abbrev mi_X5_bestInTurn : MI := (zTX, RX5, yX5_bestInTurn, cX5_bestInTurn, 3, (some .int), 13)
theorem cal_X5_bestInTurn : zCalV mi_X5_bestInTurn 2 := ⟨⟨zTB_i5 118 (by decide +kernel), zTB_i5 116 (by decide +kernel), zTB_i5 117 (by decide +kernel), zTB_i1 10 (by decide +kernel)⟩, ⟨by decide, by decide, by decide +kernel⟩, by decide⟩
noncomputable def X5_bestInTurn (x1 : Int32) (x2 : Int32) (M : Mem) : Option (Int32 × Mem) :=
  bo_ (X5_clearRows M) fun M1 =>
  bp_ (X5_seek 35 x1 0 0 M1) fun v2 M3 =>
  bp_ (X5_seek 35 x2 0 0 M3) fun v4 M5 =>
  bp_ (X5_growthOfTwo x1 x2 M5) fun v6 M7 =>
  some (v6, M7)
set_option maxRecDepth 100000 in
set_option maxHeartbeats 4000000 in
theorem X5_bestInTurn_ok (G : Gh) (x1 : Int32) (x2 : Int32) (M : Mem) : Mt G mi_X5_bestInTurn [.ref (G.2.2.2 (41)), .int x1, .int x2] M ((dO dIM) (X5_bestInTurn x1 x2 M)) := by
  refine Mt_of (lv := [some (.ref (G.2.2.2 (41))), some (.int x1), some (.int x2)]) (by decide) rfl (Nat.le_of_ble_eq_true rfl) rfl ?_
  unfold X5_bestInTurn
  refine r_aload_n dX5_bestInTurn_0 rfl ?_
  refine c_OV rfl (inv_V (mi := mi_X5_bestInTurn) (b := 41) (rest := []) (X5_clearRows_ok G M) rfl (by decide) dX5_bestInTurn_1 lkm_X5_43 cal_X5_clearRows cX_41 rfl rfl (Nat.le_of_ble_eq_true rfl) rfl) (fun M1 => ?_)
  refine r_aload_n dX5_bestInTurn_4 rfl ?_
  refine r_aload_n dX5_bestInTurn_5 rfl ?_
  refine r_getf (v := .ref (G.2.2.2 (35))) dX5_bestInTurn_6 fX_41_1 kX5 (by decide) lkf_X5_31 rfl ?_
  refine r_iload_n dX5_bestInTurn_9 rfl ?_
  refine r_iconst (x := 0) dX5_bestInTurn_10 rfl ?_
  refine r_iconst (x := 0) dX5_bestInTurn_11 rfl ?_
  refine c_OIM rfl (inv_V (mi := mi_X5_bestInTurn) (b := 41) (rest := []) (X5_seek_ok_35 G x1 0 0 M1) rfl (by decide) dX5_bestInTurn_12 lkm_X5_46 cal_X5_seek cX_41 rfl rfl (Nat.le_of_ble_eq_true rfl) rfl) (fun v2 M3 => ?_)
  refine r_pop dX5_bestInTurn_15 rfl ?_
  refine r_aload_n dX5_bestInTurn_16 rfl ?_
  refine r_aload_n dX5_bestInTurn_17 rfl ?_
  refine r_getf (v := .ref (G.2.2.2 (35))) dX5_bestInTurn_18 fX_41_1 kX5 (by decide) lkf_X5_31 rfl ?_
  refine r_iload_n dX5_bestInTurn_21 rfl ?_
  refine r_iconst (x := 0) dX5_bestInTurn_22 rfl ?_
  refine r_iconst (x := 0) dX5_bestInTurn_23 rfl ?_
  refine c_OIM rfl (inv_V (mi := mi_X5_bestInTurn) (b := 41) (rest := []) (X5_seek_ok_35 G x2 0 0 M3) rfl (by decide) dX5_bestInTurn_24 lkm_X5_46 cal_X5_seek cX_41 rfl rfl (Nat.le_of_ble_eq_true rfl) rfl) (fun v4 M5 => ?_)
  refine r_pop dX5_bestInTurn_27 rfl ?_
  refine r_aload_n dX5_bestInTurn_28 rfl ?_
  refine r_iload_n dX5_bestInTurn_29 rfl ?_
  refine r_iload_n dX5_bestInTurn_30 rfl ?_
  refine c_OIM rfl (inv_V (mi := mi_X5_bestInTurn) (b := 41) (rest := []) (X5_growthOfTwo_ok G x1 x2 M5) rfl (by decide) dX5_bestInTurn_31 lkm_X5_110 cal_X5_growthOfTwo cX_41 rfl rfl (Nat.le_of_ble_eq_true rfl) rfl) (fun v6 M7 => ?_)
  exact r_iret (ty := .int) dX5_bestInTurn_34 rfl rfl rfl

theorem dX11_joint_0 : decode cX11_joint 0 = .ok (.aload_n 0, 1) := by decide +kernel
theorem dX11_joint_1 : decode cX11_joint 1 = .ok (.getfield 28, 3) := by decide +kernel
theorem dX11_joint_4 : decode cX11_joint 4 = .ok (.iload_n 1, 1) := by decide +kernel
theorem dX11_joint_5 : decode cX11_joint 5 = .ok (.iload_n 2, 1) := by decide +kernel
theorem dX11_joint_6 : decode cX11_joint 6 = .ok (.invokevirtual 223, 3) := by decide +kernel
theorem dX11_joint_9 : decode cX11_joint 9 = .ok (.ifCond .ne 6, 3) := by decide +kernel
theorem dX11_joint_12 : decode cX11_joint 12 = .ok (.ldc 123, 2) := by decide +kernel
theorem dX11_joint_14 : decode cX11_joint 14 = .ok (.ireturn, 1) := by decide +kernel
theorem dX11_joint_15 : decode cX11_joint 15 = .ok (.aload_n 0, 1) := by decide +kernel
theorem dX11_joint_16 : decode cX11_joint 16 = .ok (.getfield 55, 3) := by decide +kernel
theorem dX11_joint_19 : decode cX11_joint 19 = .ok (.iload_n 1, 1) := by decide +kernel
theorem dX11_joint_20 : decode cX11_joint 20 = .ok (.iload_n 2, 1) := by decide +kernel
theorem dX11_joint_21 : decode cX11_joint 21 = .ok (.invokevirtual 226, 3) := by decide +kernel
theorem dX11_joint_24 : decode cX11_joint 24 = .ok (.aload_n 0, 1) := by decide +kernel
theorem dX11_joint_25 : decode cX11_joint 25 = .ok (.getfield 55, 3) := by decide +kernel
theorem dX11_joint_28 : decode cX11_joint 28 = .ok (.iload_n 1, 1) := by decide +kernel
theorem dX11_joint_29 : decode cX11_joint 29 = .ok (.iload_n 2, 1) := by decide +kernel
theorem dX11_joint_30 : decode cX11_joint 30 = .ok (.invokevirtual 229, 3) := by decide +kernel
theorem dX11_joint_33 : decode cX11_joint 33 = .ok (.isub, 1) := by decide +kernel
theorem dX11_joint_34 : decode cX11_joint 34 = .ok (.ireturn, 1) := by decide +kernel
abbrev mi_X11_joint : MI := (zTX, RX11, yX11_joint, cX11_joint, 3, (some .int), 14)
theorem cal_X11_joint : zCalV mi_X11_joint 2 := ⟨⟨zTB_i5 114 (by decide +kernel), zTB_i5 112 (by decide +kernel), zTB_i5 113 (by decide +kernel), zTB_i1 1 (by decide +kernel)⟩, ⟨by decide, by decide, by decide +kernel⟩, by decide⟩
noncomputable def X11_joint (x1 : Int32) (x2 : Int32) (M : Mem) : Option (Int32 × Mem) :=
  if (X3_hasTwo 23 x1 x2 M) = true then
    bp_ (X5_findPool x1 x2 M) fun v2 M3 =>
    bp_ (X5_bestInTurn x1 x2 M3) fun v4 M5 =>
    some (v2 - v4, M5)
  else
  some ((-1000000), M)
set_option maxRecDepth 100000 in
set_option maxHeartbeats 4000000 in
theorem X11_joint_ok (G : Gh) (x1 : Int32) (x2 : Int32) (M : Mem) : Mt G mi_X11_joint [.ref (G.2.2.2 (0)), .int x1, .int x2] M ((dO dIM) (X11_joint x1 x2 M)) := by
  refine Mt_of (lv := [some (.ref (G.2.2.2 (0))), some (.int x1), some (.int x2)]) (by decide) rfl (Nat.le_of_ble_eq_true rfl) rfl ?_
  unfold X11_joint
  refine r_aload_n dX11_joint_0 rfl ?_
  refine r_getf (v := .ref (G.2.2.2 (23))) dX11_joint_1 fX_0_2 kX11 (by decide) lkf_X11_28 rfl ?_
  refine r_iload_n dX11_joint_4 rfl ?_
  refine r_iload_n dX11_joint_5 rfl ?_
  refine c_Z (inv_V (mi := mi_X11_joint) (b := 23) (rest := []) (X3_hasTwo_ok_23 G x1 x2 M) rfl (by decide) dX11_joint_6 lkm_X11_223 cal_X3_hasTwo cX_23 rfl rfl (Nat.le_of_ble_eq_true rfl) rfl) ?_
  refine r_ifz_ne (tgt := 15) dX11_joint_9 rfl (fun h1 => ?_) (fun h1 => ?_)
  · refine r_aload_n dX11_joint_15 rfl ?_
    refine r_getf (v := .ref (G.2.2.2 (41))) dX11_joint_16 fX_0_5 kX11 (by decide) lkf_X11_55 rfl ?_
    refine r_iload_n dX11_joint_19 rfl ?_
    refine r_iload_n dX11_joint_20 rfl ?_
    refine c_OIM rfl (inv_V (mi := mi_X11_joint) (b := 41) (rest := []) (X5_findPool_ok G x1 x2 M) rfl (by decide) dX11_joint_21 lkm_X11_226 cal_X5_findPool cX_41 rfl rfl (Nat.le_of_ble_eq_true rfl) rfl) (fun v2 M3 => ?_)
    refine r_aload_n dX11_joint_24 rfl ?_
    refine r_getf (v := .ref (G.2.2.2 (41))) dX11_joint_25 fX_0_5 kX11 (by decide) lkf_X11_55 rfl ?_
    refine r_iload_n dX11_joint_28 rfl ?_
    refine r_iload_n dX11_joint_29 rfl ?_
    refine c_OIM rfl (inv_V (mi := mi_X11_joint) (b := 41) (rest := [.int v2]) (X5_bestInTurn_ok G x1 x2 M3) rfl (by decide) dX11_joint_30 lkm_X11_229 cal_X5_bestInTurn cX_41 rfl rfl (Nat.le_of_ble_eq_true rfl) rfl) (fun v4 M5 => ?_)
    refine r_isub dX11_joint_33 ?_
    exact r_iret (ty := .int) dX11_joint_34 rfl rfl rfl
  refine r_ldcI (x := (-1000000)) dX11_joint_12 lkc_X11_123 ?_
  exact r_iret (ty := .int) dX11_joint_14 rfl rfl rfl

