theorem dX12_rest_0 : decode cX12_rest 0 = .ok (.aload_n 0, 1) := by decide +kernel
theorem dX12_rest_1 : decode cX12_rest 1 = .ok (.iconst 0, 1) := by decide +kernel
theorem dX12_rest_2 : decode cX12_rest 2 = .ok (.putfield 414, 3) := by decide +kernel
theorem dX12_rest_5 : decode cX12_rest 5 = .ok (.aload_n 0, 1) := by decide +kernel
theorem dX12_rest_6 : decode cX12_rest 6 = .ok (.invokevirtual 522, 3) := by decide +kernel
theorem dX12_rest_9 : decode cX12_rest 9 = .ok (.iconst 0, 1) := by decide +kernel
theorem dX12_rest_10 : decode cX12_rest 10 = .ok (.istore_n 1, 1) := by decide +kernel
theorem dX12_rest_11 : decode cX12_rest 11 = .ok (.iload_n 1, 1) := by decide +kernel
theorem dX12_rest_12 : decode cX12_rest 12 = .ok (.bipush 15, 2) := by decide +kernel
theorem dX12_rest_14 : decode cX12_rest 14 = .ok (.if_icmp .ge 16, 3) := by decide +kernel
theorem dX12_rest_17 : decode cX12_rest 17 = .ok (.aload_n 0, 1) := by decide +kernel
theorem dX12_rest_18 : decode cX12_rest 18 = .ok (.getfield 146, 3) := by decide +kernel
theorem dX12_rest_21 : decode cX12_rest 21 = .ok (.iload_n 1, 1) := by decide +kernel
theorem dX12_rest_22 : decode cX12_rest 22 = .ok (.iconst 0, 1) := by decide +kernel
theorem dX12_rest_23 : decode cX12_rest 23 = .ok (.iastore, 1) := by decide +kernel
theorem dX12_rest_24 : decode cX12_rest 24 = .ok (.iinc 1 1, 3) := by decide +kernel
theorem dX12_rest_27 : decode cX12_rest 27 = .ok (.goto (-16), 3) := by decide +kernel
theorem dX12_rest_30 : decode cX12_rest 30 = .ok (.iconst 0, 1) := by decide +kernel
theorem dX12_rest_31 : decode cX12_rest 31 = .ok (.istore_n 1, 1) := by decide +kernel
theorem dX12_rest_32 : decode cX12_rest 32 = .ok (.aload_n 0, 1) := by decide +kernel
theorem dX12_rest_33 : decode cX12_rest 33 = .ok (.invokevirtual 528, 3) := by decide +kernel
theorem dX12_rest_36 : decode cX12_rest 36 = .ok (.istore_n 2, 1) := by decide +kernel
theorem dX12_rest_37 : decode cX12_rest 37 = .ok (.iload_n 2, 1) := by decide +kernel
theorem dX12_rest_38 : decode cX12_rest 38 = .ok (.ifCond .eq 20, 3) := by decide +kernel
theorem dX12_rest_41 : decode cX12_rest 41 = .ok (.iload_n 1, 1) := by decide +kernel
theorem dX12_rest_42 : decode cX12_rest 42 = .ok (.bipush 20, 2) := by decide +kernel
theorem dX12_rest_44 : decode cX12_rest 44 = .ok (.if_icmp .ge 14, 3) := by decide +kernel
theorem dX12_rest_47 : decode cX12_rest 47 = .ok (.iinc 1 1, 3) := by decide +kernel
theorem dX12_rest_50 : decode cX12_rest 50 = .ok (.aload_n 0, 1) := by decide +kernel
theorem dX12_rest_51 : decode cX12_rest 51 = .ok (.invokevirtual 528, 3) := by decide +kernel
theorem dX12_rest_54 : decode cX12_rest 54 = .ok (.istore_n 2, 1) := by decide +kernel
theorem dX12_rest_55 : decode cX12_rest 55 = .ok (.goto (-18), 3) := by decide +kernel
theorem dX12_rest_58 : decode cX12_rest 58 = .ok (.aload_n 0, 1) := by decide +kernel
theorem dX12_rest_59 : decode cX12_rest 59 = .ok (.invokevirtual 525, 3) := by decide +kernel
theorem dX12_rest_62 : decode cX12_rest 62 = .ok (.iload_n 2, 1) := by decide +kernel
theorem dX12_rest_63 : decode cX12_rest 63 = .ok (.ifCond .eq 5, 3) := by decide +kernel
theorem dX12_rest_66 : decode cX12_rest 66 = .ok (.iconst (-1), 1) := by decide +kernel
theorem dX12_rest_67 : decode cX12_rest 67 = .ok (.ireturn, 1) := by decide +kernel
theorem dX12_rest_68 : decode cX12_rest 68 = .ok (.iconst 0, 1) := by decide +kernel
theorem dX12_rest_69 : decode cX12_rest 69 = .ok (.istore_n 3, 1) := by decide +kernel
theorem dX12_rest_70 : decode cX12_rest 70 = .ok (.iload_n 3, 1) := by decide +kernel
theorem dX12_rest_71 : decode cX12_rest 71 = .ok (.aload_n 0, 1) := by decide +kernel
theorem dX12_rest_72 : decode cX12_rest 72 = .ok (.invokevirtual 398, 3) := by decide +kernel
theorem dX12_rest_75 : decode cX12_rest 75 = .ok (.if_icmp .ge 20, 3) := by decide +kernel
theorem dX12_rest_78 : decode cX12_rest 78 = .ok (.aload_n 0, 1) := by decide +kernel
theorem dX12_rest_79 : decode cX12_rest 79 = .ok (.getfield 125, 3) := by decide +kernel
theorem dX12_rest_82 : decode cX12_rest 82 = .ok (.iload_n 3, 1) := by decide +kernel
theorem dX12_rest_83 : decode cX12_rest 83 = .ok (.aload_n 0, 1) := by decide +kernel
theorem dX12_rest_84 : decode cX12_rest 84 = .ok (.iload_n 3, 1) := by decide +kernel
theorem dX12_rest_85 : decode cX12_rest 85 = .ok (.invokevirtual 531, 3) := by decide +kernel
theorem dX12_rest_88 : decode cX12_rest 88 = .ok (.iastore, 1) := by decide +kernel
theorem dX12_rest_89 : decode cX12_rest 89 = .ok (.iinc 3 1, 3) := by decide +kernel
theorem dX12_rest_92 : decode cX12_rest 92 = .ok (.goto (-22), 3) := by decide +kernel
theorem dX12_rest_95 : decode cX12_rest 95 = .ok (.aload_n 0, 1) := by decide +kernel
theorem dX12_rest_96 : decode cX12_rest 96 = .ok (.aload_n 0, 1) := by decide +kernel
theorem dX12_rest_97 : decode cX12_rest 97 = .ok (.invokevirtual 398, 3) := by decide +kernel
theorem dX12_rest_100 : decode cX12_rest 100 = .ok (.putfield 414, 3) := by decide +kernel
theorem dX12_rest_103 : decode cX12_rest 103 = .ok (.iload_n 1, 1) := by decide +kernel
theorem dX12_rest_104 : decode cX12_rest 104 = .ok (.ireturn, 1) := by decide +kernel
abbrev mi_X12_rest : MI := (zTM, RX12, yX12_rest, cX12_rest, 4, (some .int), 9)
theorem cal_X12_rest : zCalV mi_X12_rest 0 := ⟨⟨zTB_i9 15 (by decide +kernel), zTB_i9 13 (by decide +kernel), zTB_i9 14 (by decide +kernel), zTB_i1 13 (by decide +kernel)⟩, ⟨by decide, by decide, by decide +kernel⟩, by decide⟩
noncomputable def X12_rest_L3 : Nat → Int32 → Mem → Option (Mem)
  | 0, _, _ => none
  | n + 1, c3, M =>
    bo_ (X12_many M) fun v18 =>
    if v18 ≤ c3 then
      some M
    else
    bo_ (X12_spendsOf c3 M) fun v20 =>
    gd_ (inb c3 (8) = true) (
    lt_ (uI M 37 c3.toNatClampNeg v20) fun M22 =>
    X12_rest_L3 n (c3 + 1) M22)
noncomputable def X12_rest_L2 : Nat → Int32 → Int32 → Mem → Option (Int32 × Int32 × Mem)
  | 0, _, _, _ => none
  | n + 1, c1, c2, M =>
    if c2 = 0 then
      some (c1, c2, M)
    else
    if 20 ≤ c1 then
      some (c1, c2, M)
    else
    bp_ (X12_goRound M) fun b11 M12 =>
    X12_rest_L2 n (c1 + 1) (b2i (b11)) M12
noncomputable def X12_rest_L1 : Nat → Int32 → Mem → Option (Mem)
  | 0, _, _ => none
  | n + 1, c1, M =>
    if 15 ≤ c1 then
      some M
    else
    gd_ (inb c1 (15) = true) (
    lt_ (uI M 44 c1.toNatClampNeg 0) fun M5 =>
    X12_rest_L1 n (c1 + 1) M5)
noncomputable def X12_rest (M : Mem) : Option (Int32 × Mem) :=
  lt_ (uI M 0 55 0) fun M1 =>
  bo_ (X12_keepNow M1) fun M2 =>
  b1_ (α := Mem) (X12_rest_L1 zFU 0 M2) fun M6 =>
  bp_ (X12_goRound M6) fun b7 M8 =>
  b3_ (α := Int32) (β := Int32) (γ := Mem) (X12_rest_L2 zFU 0 (b2i (b7)) M8) fun e13 e14 M15 =>
  bo_ (X12_bringBack M15) fun M16 =>
  if e14 = 0 then
    b1_ (α := Mem) (X12_rest_L3 zFU 0 M16) fun M23 =>
    bo_ (X12_many M23) fun v24 =>
    lt_ (uI M23 0 55 v24) fun M25 =>
    some (e13, M25)
  else
  some ((-1), M16)
set_option maxRecDepth 100000 in
set_option maxHeartbeats 4000000 in
theorem X12_rest_L3_ok (G : Gh) (e13 : Int32) {dn : Option (Mem) → Option (Option Value × Mem)} (hs : dn none = none) (hx : ∀ (M23 : Mem), Wr G mi_X12_rest dn 95 [some (.ref (G.2.2.2 (0))), some (.int e13), none, none] [] M23 (some M23)) : ∀ (n : Nat) (c3 : Int32) (M : Mem), Wr G mi_X12_rest dn 70 [some (.ref (G.2.2.2 (0))), some (.int e13), none, some (.int c3)] [] M (X12_rest_L3 n c3 M) := by
  intro n
  induction n with
  | zero => intro c3 M; exact r_none (by exact hs)
  | succ n ih =>
    intro c3 M
    rw [X12_rest_L3]
    refine r_iload_n dX12_rest_70 rfl ?_
    refine r_aload_n dX12_rest_71 rfl ?_
    refine c_OI (by exact hs) (inv_V (mi := mi_X12_rest) (b := 0) (rest := [.int c3]) (X12_many_ok G M) rfl (by decide) dX12_rest_72 lkm_X12_398 cal_X12_many cM_0 rfl rfl (Nat.le_of_ble_eq_true rfl) rfl) (fun v18 => ?_)
    refine r_icmp_ge (tgt := 95) dX12_rest_75 rfl (fun h19 => ?_) (fun h19 => ?_)
    · exact r_lk (hx M) (And.intro rfl (And.intro rfl True.intro))
    refine r_aload_n dX12_rest_78 rfl ?_
    refine r_getf (v := .ref (G.2.2.2 (37))) dX12_rest_79 fM_0_54 kX12 (by decide) lkf_X12_125 rfl ?_
    refine r_iload_n dX12_rest_82 rfl ?_
    refine r_aload_n dX12_rest_83 rfl ?_
    refine r_iload_n dX12_rest_84 rfl ?_
    refine c_OI (by exact hs) (inv_V (mi := mi_X12_rest) (b := 0) (rest := [.int c3, .ref (G.2.2.2 (37))]) (X12_spendsOf_ok G c3 M) rfl (by decide) dX12_rest_85 lkm_X12_531 cal_X12_spendsOf cM_0 rfl rfl (Nat.le_of_ble_eq_true rfl) rfl) (fun v20 => ?_)
    refine r_gd (by exact hs) (fun g21 => ?_)
    refine r_iast dX12_rest_88 aM_37 (inb_in g21) rfl (fun M22 => ?_)
    refine r_iinc (y := c3 + 1) (lv' := [some (.ref (G.2.2.2 (0))), some (.int e13), none, some (.int (c3 + 1))]) dX12_rest_89 rfl rfl (Nat.le_of_ble_eq_true rfl) rfl rfl ?_
    refine r_goto (tgt := 70) dX12_rest_92 rfl ?_
    exact r_lk (ih (c3 + 1) M22) (And.intro rfl (And.intro rfl (And.intro rfl True.intro)))
set_option maxRecDepth 100000 in
set_option maxHeartbeats 4000000 in
theorem X12_rest_L2_ok (G : Gh) {dn : Option (Int32 × Int32 × Mem) → Option (Option Value × Mem)} (hs : dn none = none) (hx : ∀ (e13 : Int32) (e14 : Int32) (M15 : Mem), Wr G mi_X12_rest dn 58 [some (.ref (G.2.2.2 (0))), some (.int e13), some (.int e14), none] [] M15 (some (e13, e14, M15))) : ∀ (n : Nat) (c1 : Int32) (c2 : Int32) (M : Mem), Wr G mi_X12_rest dn 37 [some (.ref (G.2.2.2 (0))), some (.int c1), some (.int c2), none] [] M (X12_rest_L2 n c1 c2 M) := by
  intro n
  induction n with
  | zero => intro c1 c2 M; exact r_none (by exact hs)
  | succ n ih =>
    intro c1 c2 M
    rw [X12_rest_L2]
    refine r_iload_n dX12_rest_37 rfl ?_
    refine r_if_eq (tgt := 58) dX12_rest_38 rfl (fun h9 => ?_) (fun h9 => ?_)
    · exact r_lk (hx c1 c2 M) (And.intro rfl (And.intro rfl (And.intro rfl True.intro)))
    refine r_iload_n dX12_rest_41 rfl ?_
    refine r_bipush (x := 20) dX12_rest_42 rfl ?_
    refine r_icmp_ge (tgt := 58) dX12_rest_44 rfl (fun h10 => ?_) (fun h10 => ?_)
    · exact r_lk (hx c1 c2 M) (And.intro rfl (And.intro rfl (And.intro rfl True.intro)))
    refine r_iinc (y := c1 + 1) (lv' := [some (.ref (G.2.2.2 (0))), some (.int (c1 + 1)), some (.int c2), none]) dX12_rest_47 rfl rfl (Nat.le_of_ble_eq_true rfl) rfl rfl ?_
    refine r_aload_n dX12_rest_50 rfl ?_
    refine c_OZM (by exact hs) (inv_V (mi := mi_X12_rest) (b := 0) (rest := []) (X12_goRound_ok G M) rfl (by decide) dX12_rest_51 lkm_X12_528 cal_X12_goRound cM_0 rfl rfl (Nat.le_of_ble_eq_true rfl) rfl) (fun b11 M12 => ?_)
    refine r_istore_n (lv' := [some (.ref (G.2.2.2 (0))), some (.int (c1 + 1)), some (.int (b2i (b11))), none]) dX12_rest_54 (Nat.le_of_ble_eq_true rfl) rfl rfl ?_
    refine r_goto (tgt := 37) dX12_rest_55 rfl ?_
    exact r_lk (ih (c1 + 1) (b2i (b11)) M12) (And.intro rfl (And.intro rfl (And.intro rfl True.intro)))
set_option maxRecDepth 100000 in
set_option maxHeartbeats 4000000 in
theorem X12_rest_L1_ok (G : Gh) {dn : Option (Mem) → Option (Option Value × Mem)} (hs : dn none = none) (hx : ∀ (M6 : Mem), Wr G mi_X12_rest dn 30 [some (.ref (G.2.2.2 (0))), none, none, none] [] M6 (some M6)) : ∀ (n : Nat) (c1 : Int32) (M : Mem), Wr G mi_X12_rest dn 11 [some (.ref (G.2.2.2 (0))), some (.int c1), none, none] [] M (X12_rest_L1 n c1 M) := by
  intro n
  induction n with
  | zero => intro c1 M; exact r_none (by exact hs)
  | succ n ih =>
    intro c1 M
    rw [X12_rest_L1]
    refine r_iload_n dX12_rest_11 rfl ?_
    refine r_bipush (x := 15) dX12_rest_12 rfl ?_
    refine r_icmp_ge (tgt := 30) dX12_rest_14 rfl (fun h3 => ?_) (fun h3 => ?_)
    · exact r_lk (hx M) (And.intro rfl True.intro)
    refine r_aload_n dX12_rest_17 rfl ?_
    refine r_getf (v := .ref (G.2.2.2 (44))) dX12_rest_18 fM_0_66 kX12 (by decide) lkf_X12_146 rfl ?_
    refine r_iload_n dX12_rest_21 rfl ?_
    refine r_iconst (x := 0) dX12_rest_22 rfl ?_
    refine r_gd (by exact hs) (fun g4 => ?_)
    refine r_iast dX12_rest_23 aM_44 (inb_in g4) rfl (fun M5 => ?_)
    refine r_iinc (y := c1 + 1) (lv' := [some (.ref (G.2.2.2 (0))), some (.int (c1 + 1)), none, none]) dX12_rest_24 rfl rfl (Nat.le_of_ble_eq_true rfl) rfl rfl ?_
    refine r_goto (tgt := 11) dX12_rest_27 rfl ?_
    exact r_lk (ih (c1 + 1) M5) (And.intro rfl (And.intro rfl True.intro))
set_option maxRecDepth 100000 in
set_option maxHeartbeats 4000000 in
theorem X12_rest_ok (G : Gh) (M : Mem) : Mt G mi_X12_rest [.ref (G.2.2.2 (0))] M ((dO dIM) (X12_rest M)) := by
  refine Mt_of (lv := [some (.ref (G.2.2.2 (0)))]) (by decide) rfl (Nat.le_of_ble_eq_true rfl) rfl ?_
  refine r_le (lv' := [some (.ref (G.2.2.2 (0))), none, none, none]) (And.intro rfl True.intro) ?_
  unfold X12_rest
  refine r_aload_n dX12_rest_0 rfl ?_
  refine r_iconst (x := 0) dX12_rest_1 rfl ?_
  refine r_putI dX12_rest_2 fM_0_55 kX12 (by decide) rfl rfl lkf_X12_414 (fun _ => rfl) rfl rfl (fun M1 => ?_)
  refine r_aload_n dX12_rest_5 rfl ?_
  refine c_OV rfl (inv_V (mi := mi_X12_rest) (b := 0) (rest := []) (X12_keepNow_ok G M1) rfl (by decide) dX12_rest_6 lkm_X12_522 cal_X12_keepNow cM_0 rfl rfl (Nat.le_of_ble_eq_true rfl) rfl) (fun M2 => ?_)
  refine r_iconst (x := 0) dX12_rest_9 rfl ?_
  refine r_istore_n (lv' := [some (.ref (G.2.2.2 (0))), some (.int 0), none, none]) dX12_rest_10 (Nat.le_of_ble_eq_true rfl) rfl rfl ?_
  refine r_jB1 (j := 30) (lvj := fun M6 => [some (.ref (G.2.2.2 (0))), none, none, none]) (stj := fun M6 => []) (Mj := fun M6 => M6) (fun M6 => ?_) (fun hj30 => ?_)
  · refine r_iconst (x := 0) dX12_rest_30 rfl ?_
    refine r_istore_n (lv' := [some (.ref (G.2.2.2 (0))), some (.int 0), none, none]) dX12_rest_31 (Nat.le_of_ble_eq_true rfl) rfl rfl ?_
    refine r_aload_n dX12_rest_32 rfl ?_
    refine c_OZM rfl (inv_V (mi := mi_X12_rest) (b := 0) (rest := []) (X12_goRound_ok G M6) rfl (by decide) dX12_rest_33 lkm_X12_528 cal_X12_goRound cM_0 rfl rfl (Nat.le_of_ble_eq_true rfl) rfl) (fun b7 M8 => ?_)
    refine r_istore_n (lv' := [some (.ref (G.2.2.2 (0))), some (.int 0), some (.int (b2i (b7))), none]) dX12_rest_36 (Nat.le_of_ble_eq_true rfl) rfl rfl ?_
    refine r_jB3 (j := 58) (lvj := fun e13 e14 M15 => [some (.ref (G.2.2.2 (0))), some (.int e13), some (.int e14), none]) (stj := fun e13 e14 M15 => []) (Mj := fun e13 e14 M15 => M15) (fun e13 e14 M15 => ?_) (fun hj58 => ?_)
    · refine r_aload_n dX12_rest_58 rfl ?_
      refine c_OV rfl (inv_V (mi := mi_X12_rest) (b := 0) (rest := []) (X12_bringBack_ok G M15) rfl (by decide) dX12_rest_59 lkm_X12_525 cal_X12_bringBack cM_0 rfl rfl (Nat.le_of_ble_eq_true rfl) rfl) (fun M16 => ?_)
      refine r_iload_n dX12_rest_62 rfl ?_
      refine r_if_eq (tgt := 68) dX12_rest_63 rfl (fun h17 => ?_) (fun h17 => ?_)
      · refine r_iconst (x := 0) dX12_rest_68 rfl ?_
        refine r_istore_n (lv' := [some (.ref (G.2.2.2 (0))), some (.int e13), some (.int e14), some (.int 0)]) dX12_rest_69 (Nat.le_of_ble_eq_true rfl) rfl rfl ?_
        refine r_jB1 (j := 95) (lvj := fun M23 => [some (.ref (G.2.2.2 (0))), some (.int e13), none, none]) (stj := fun M23 => []) (Mj := fun M23 => M23) (fun M23 => ?_) (fun hj95 => ?_)
        · refine r_aload_n dX12_rest_95 rfl ?_
          refine r_aload_n dX12_rest_96 rfl ?_
          refine c_OI rfl (inv_V (mi := mi_X12_rest) (b := 0) (rest := [.ref (G.2.2.2 (0))]) (X12_many_ok G M23) rfl (by decide) dX12_rest_97 lkm_X12_398 cal_X12_many cM_0 rfl rfl (Nat.le_of_ble_eq_true rfl) rfl) (fun v24 => ?_)
          refine r_putI dX12_rest_100 fM_0_55 kX12 (by decide) rfl rfl lkf_X12_414 (fun _ => rfl) rfl rfl (fun M25 => ?_)
          refine r_iload_n dX12_rest_103 rfl ?_
          exact r_iret (ty := .int) dX12_rest_104 rfl rfl rfl
        exact r_lk (X12_rest_L3_ok G e13 rfl hj95 zFU 0 M16) (And.intro rfl (And.intro rfl (And.intro rfl True.intro)))
      refine r_iconst (x := (-1)) dX12_rest_66 rfl ?_
      exact r_iret (ty := .int) dX12_rest_67 rfl rfl rfl
    exact r_lk (X12_rest_L2_ok G rfl hj58 zFU 0 (b2i (b7)) M8) (And.intro rfl (And.intro rfl (And.intro rfl True.intro)))
  exact r_lk (X12_rest_L1_ok G rfl hj30 zFU 0 M2) (And.intro rfl (And.intro rfl True.intro))

theorem dX12_will_0 : decode cX12_will 0 = .ok (.aload_n 0, 1) := by decide +kernel
theorem dX12_will_1 : decode cX12_will 1 = .ok (.iload_n 1, 1) := by decide +kernel
theorem dX12_will_2 : decode cX12_will 2 = .ok (.invokevirtual 426, 3) := by decide +kernel
theorem dX12_will_5 : decode cX12_will 5 = .ok (.ifCond .eq 13, 3) := by decide +kernel
theorem dX12_will_8 : decode cX12_will 8 = .ok (.iload_n 2, 1) := by decide +kernel
theorem dX12_will_9 : decode cX12_will 9 = .ok (.iconst 0, 1) := by decide +kernel
theorem dX12_will_10 : decode cX12_will 10 = .ok (.bipush 30, 2) := by decide +kernel
theorem dX12_will_12 : decode cX12_will 12 = .ok (.invokestatic 401, 3) := by decide +kernel
theorem dX12_will_15 : decode cX12_will 15 = .ok (.ifCond .ne 5, 3) := by decide +kernel
theorem dX12_will_18 : decode cX12_will 18 = .ok (.iconst (-1), 1) := by decide +kernel
theorem dX12_will_19 : decode cX12_will 19 = .ok (.ireturn, 1) := by decide +kernel
theorem dX12_will_20 : decode cX12_will 20 = .ok (.aload_n 0, 1) := by decide +kernel
theorem dX12_will_21 : decode cX12_will 21 = .ok (.invokevirtual 522, 3) := by decide +kernel
theorem dX12_will_24 : decode cX12_will 24 = .ok (.iconst 0, 1) := by decide +kernel
theorem dX12_will_25 : decode cX12_will 25 = .ok (.istore_n 3, 1) := by decide +kernel
theorem dX12_will_26 : decode cX12_will 26 = .ok (.iload_n 3, 1) := by decide +kernel
theorem dX12_will_27 : decode cX12_will 27 = .ok (.iload_n 2, 1) := by decide +kernel
theorem dX12_will_28 : decode cX12_will 28 = .ok (.if_icmp .ge 15, 3) := by decide +kernel
theorem dX12_will_31 : decode cX12_will 31 = .ok (.aload_n 0, 1) := by decide +kernel
theorem dX12_will_32 : decode cX12_will 32 = .ok (.invokevirtual 469, 3) := by decide +kernel
theorem dX12_will_35 : decode cX12_will 35 = .ok (.istore 4, 2) := by decide +kernel
theorem dX12_will_37 : decode cX12_will 37 = .ok (.iinc 3 1, 3) := by decide +kernel
theorem dX12_will_40 : decode cX12_will 40 = .ok (.goto (-14), 3) := by decide +kernel
theorem dX12_will_43 : decode cX12_will 43 = .ok (.aload_n 0, 1) := by decide +kernel
theorem dX12_will_44 : decode cX12_will 44 = .ok (.getfield 113, 3) := by decide +kernel
theorem dX12_will_47 : decode cX12_will 47 = .ok (.bipush 15, 2) := by decide +kernel
theorem dX12_will_49 : decode cX12_will 49 = .ok (.iload_n 1, 1) := by decide +kernel
theorem dX12_will_50 : decode cX12_will 50 = .ok (.iadd, 1) := by decide +kernel
theorem dX12_will_51 : decode cX12_will 51 = .ok (.iaload, 1) := by decide +kernel
theorem dX12_will_52 : decode cX12_will 52 = .ok (.istore_n 3, 1) := by decide +kernel
theorem dX12_will_53 : decode cX12_will 53 = .ok (.aload_n 0, 1) := by decide +kernel
theorem dX12_will_54 : decode cX12_will 54 = .ok (.invokevirtual 525, 3) := by decide +kernel
theorem dX12_will_57 : decode cX12_will 57 = .ok (.iload_n 3, 1) := by decide +kernel
theorem dX12_will_58 : decode cX12_will 58 = .ok (.ireturn, 1) := by decide +kernel
abbrev mi_X12_will : MI := (zTM, RX12, yX12_will, cX12_will, 5, (some .int), 8)
theorem cal_X12_will : zCalV mi_X12_will 2 := ⟨⟨zTB_i9 27 (by decide +kernel), zTB_i9 25 (by decide +kernel), zTB_i9 26 (by decide +kernel), zTB_i1 13 (by decide +kernel)⟩, ⟨by decide, by decide, by decide +kernel⟩, by decide⟩
noncomputable def X12_will_L1 (x2 : Int32) : Nat → Int32 → Mem → Option (Mem)
  | 0, _, _ => none
  | n + 1, c3, M =>
    if x2 ≤ c3 then
      some M
    else
    bp_ (X12_goWeek M) fun v6 M7 =>
    X12_will_L1 x2 n (c3 + 1) M7
noncomputable def X12_will (x1 : Int32) (x2 : Int32) (M : Mem) : Option (Int32 × Mem) :=
  bo_ (X12_isMan x1 M) fun b1 =>
  if b1 = true then
    if (X12_isIn x2 0 30) = true then
      bo_ (X12_keepNow M) fun M4 =>
      b1_ (α := Mem) (X12_will_L1 x2 zFU 0 M4) fun M8 =>
      gd_ (inb (15 + x1) (42) = true) (
      lt_ (α := Int32) (M8.1 33 ((15 + x1).toNatClampNeg)) fun y10 =>
      bo_ (X12_bringBack M8) fun M11 =>
      some (y10, M11))
    else
    some ((-1), M)
  else
  some ((-1), M)
set_option maxRecDepth 100000 in
set_option maxHeartbeats 4000000 in
theorem X12_will_L1_ok (G : Gh) (x1 : Int32) (x2 : Int32) {dn : Option (Mem) → Option (Option Value × Mem)} (hs : dn none = none) (hx : ∀ (M8 : Mem), Wr G mi_X12_will dn 43 [some (.ref (G.2.2.2 (0))), some (.int x1), none, none, none] [] M8 (some M8)) : ∀ (n : Nat) (c3 : Int32) (M : Mem), Wr G mi_X12_will dn 26 [some (.ref (G.2.2.2 (0))), some (.int x1), some (.int x2), some (.int c3), none] [] M (X12_will_L1 x2 n c3 M) := by
  intro n
  induction n with
  | zero => intro c3 M; exact r_none (by exact hs)
  | succ n ih =>
    intro c3 M
    rw [X12_will_L1]
    refine r_iload_n dX12_will_26 rfl ?_
    refine r_iload_n dX12_will_27 rfl ?_
    refine r_icmp_ge (tgt := 43) dX12_will_28 rfl (fun h5 => ?_) (fun h5 => ?_)
    · exact r_lk (hx M) (And.intro rfl (And.intro rfl True.intro))
    refine r_aload_n dX12_will_31 rfl ?_
    refine c_OIM (by exact hs) (inv_V (mi := mi_X12_will) (b := 0) (rest := []) (X12_goWeek_ok G M) rfl (by decide) dX12_will_32 lkm_X12_469 cal_X12_goWeek cM_0 rfl rfl (Nat.le_of_ble_eq_true rfl) rfl) (fun v6 M7 => ?_)
    refine r_istore (lv' := [some (.ref (G.2.2.2 (0))), some (.int x1), some (.int x2), some (.int c3), some (.int v6)]) dX12_will_35 (Nat.le_of_ble_eq_true rfl) rfl rfl ?_
    refine r_iinc (y := c3 + 1) (lv' := [some (.ref (G.2.2.2 (0))), some (.int x1), some (.int x2), some (.int (c3 + 1)), some (.int v6)]) dX12_will_37 rfl rfl (Nat.le_of_ble_eq_true rfl) rfl rfl ?_
    refine r_goto (tgt := 26) dX12_will_40 rfl ?_
    exact r_lk (ih (c3 + 1) M7) (And.intro rfl (And.intro rfl (And.intro rfl (And.intro rfl True.intro))))
set_option maxRecDepth 100000 in
set_option maxHeartbeats 4000000 in
theorem X12_will_ok (G : Gh) (x1 : Int32) (x2 : Int32) (M : Mem) : Mt G mi_X12_will [.ref (G.2.2.2 (0)), .int x1, .int x2] M ((dO dIM) (X12_will x1 x2 M)) := by
  refine Mt_of (lv := [some (.ref (G.2.2.2 (0))), some (.int x1), some (.int x2)]) (by decide) rfl (Nat.le_of_ble_eq_true rfl) rfl ?_
  refine r_le (lv' := [some (.ref (G.2.2.2 (0))), some (.int x1), some (.int x2), none, none]) (And.intro rfl (And.intro rfl (And.intro rfl True.intro))) ?_
  unfold X12_will
  refine r_aload_n dX12_will_0 rfl ?_
  refine r_iload_n dX12_will_1 rfl ?_
  refine c_OZ rfl (inv_V (mi := mi_X12_will) (b := 0) (rest := []) (X12_isMan_ok G x1 M) rfl (by decide) dX12_will_2 lkm_X12_426 cal_X12_isMan cM_0 rfl rfl (Nat.le_of_ble_eq_true rfl) rfl) (fun b1 => ?_)
  refine r_ifz_eq (tgt := 18) dX12_will_5 rfl (fun h2 => ?_) (fun h2 => ?_)
  · refine r_iload_n dX12_will_8 rfl ?_
    refine r_iconst (x := 0) dX12_will_9 rfl ?_
    refine r_bipush (x := 30) dX12_will_10 rfl ?_
    refine c_Z (inv_S (mi := mi_X12_will) (rest := []) (X12_isIn_ok G x2 0 30 M) rfl (by decide) dX12_will_12 lkm_X12_401 cal_X12_isIn rfl (Nat.le_of_ble_eq_true rfl) rfl) ?_
    refine r_ifz_ne (tgt := 20) dX12_will_15 rfl (fun h3 => ?_) (fun h3 => ?_)
    · refine r_aload_n dX12_will_20 rfl ?_
      refine c_OV rfl (inv_V (mi := mi_X12_will) (b := 0) (rest := []) (X12_keepNow_ok G M) rfl (by decide) dX12_will_21 lkm_X12_522 cal_X12_keepNow cM_0 rfl rfl (Nat.le_of_ble_eq_true rfl) rfl) (fun M4 => ?_)
      refine r_iconst (x := 0) dX12_will_24 rfl ?_
      refine r_istore_n (lv' := [some (.ref (G.2.2.2 (0))), some (.int x1), some (.int x2), some (.int 0), none]) dX12_will_25 (Nat.le_of_ble_eq_true rfl) rfl rfl ?_
      refine r_jB1 (j := 43) (lvj := fun M8 => [some (.ref (G.2.2.2 (0))), some (.int x1), none, none, none]) (stj := fun M8 => []) (Mj := fun M8 => M8) (fun M8 => ?_) (fun hj43 => ?_)
      · refine r_aload_n dX12_will_43 rfl ?_
        refine r_getf (v := .ref (G.2.2.2 (33))) dX12_will_44 fM_0_48 kX12 (by decide) lkf_X12_113 rfl ?_
        refine r_bipush (x := 15) dX12_will_47 rfl ?_
        refine r_iload_n dX12_will_49 rfl ?_
        refine r_iadd dX12_will_50 ?_
        refine r_gd rfl (fun g9 => ?_)
        refine r_iald dX12_will_51 aM_33 (inb_in g9) rfl ?_
        refine r_letI (fun y10 => ?_)
        refine r_istore_n (lv' := [some (.ref (G.2.2.2 (0))), some (.int x1), none, some (.int y10), none]) dX12_will_52 (Nat.le_of_ble_eq_true rfl) rfl rfl ?_
        refine r_aload_n dX12_will_53 rfl ?_
        refine c_OV rfl (inv_V (mi := mi_X12_will) (b := 0) (rest := []) (X12_bringBack_ok G M8) rfl (by decide) dX12_will_54 lkm_X12_525 cal_X12_bringBack cM_0 rfl rfl (Nat.le_of_ble_eq_true rfl) rfl) (fun M11 => ?_)
        refine r_iload_n dX12_will_57 rfl ?_
        exact r_iret (ty := .int) dX12_will_58 rfl rfl rfl
      exact r_lk (X12_will_L1_ok G x1 x2 rfl hj43 zFU 0 M4) (And.intro rfl (And.intro rfl (And.intro rfl (And.intro rfl True.intro))))
    refine r_iconst (x := (-1)) dX12_will_18 rfl ?_
    exact r_iret (ty := .int) dX12_will_19 rfl rfl rfl
  refine r_iconst (x := (-1)) dX12_will_18 rfl ?_
  exact r_iret (ty := .int) dX12_will_19 rfl rfl rfl

theorem dX12_thrive_0 : decode cX12_thrive 0 = .ok (.aload_n 0, 1) := by decide +kernel
theorem dX12_thrive_1 : decode cX12_thrive 1 = .ok (.iload_n 1, 1) := by decide +kernel
theorem dX12_thrive_2 : decode cX12_thrive 2 = .ok (.invokevirtual 426, 3) := by decide +kernel
theorem dX12_thrive_5 : decode cX12_thrive 5 = .ok (.ifCond .eq 13, 3) := by decide +kernel
theorem dX12_thrive_8 : decode cX12_thrive 8 = .ok (.iload_n 2, 1) := by decide +kernel
theorem dX12_thrive_9 : decode cX12_thrive 9 = .ok (.iconst 0, 1) := by decide +kernel
theorem dX12_thrive_10 : decode cX12_thrive 10 = .ok (.bipush 12, 2) := by decide +kernel
theorem dX12_thrive_12 : decode cX12_thrive 12 = .ok (.invokestatic 401, 3) := by decide +kernel
theorem dX12_thrive_15 : decode cX12_thrive 15 = .ok (.ifCond .ne 5, 3) := by decide +kernel
theorem dX12_thrive_18 : decode cX12_thrive 18 = .ok (.iconst (-1), 1) := by decide +kernel
theorem dX12_thrive_19 : decode cX12_thrive 19 = .ok (.ireturn, 1) := by decide +kernel
theorem dX12_thrive_20 : decode cX12_thrive 20 = .ok (.aload_n 0, 1) := by decide +kernel
theorem dX12_thrive_21 : decode cX12_thrive 21 = .ok (.invokevirtual 522, 3) := by decide +kernel
theorem dX12_thrive_24 : decode cX12_thrive 24 = .ok (.iconst 0, 1) := by decide +kernel
theorem dX12_thrive_25 : decode cX12_thrive 25 = .ok (.istore_n 3, 1) := by decide +kernel
theorem dX12_thrive_26 : decode cX12_thrive 26 = .ok (.iload_n 3, 1) := by decide +kernel
theorem dX12_thrive_27 : decode cX12_thrive 27 = .ok (.iload_n 2, 1) := by decide +kernel
theorem dX12_thrive_28 : decode cX12_thrive 28 = .ok (.if_icmp .ge 65, 3) := by decide +kernel
theorem dX12_thrive_31 : decode cX12_thrive 31 = .ok (.aload_n 0, 1) := by decide +kernel
theorem dX12_thrive_32 : decode cX12_thrive 32 = .ok (.iload_n 1, 1) := by decide +kernel
theorem dX12_thrive_33 : decode cX12_thrive 33 = .ok (.iconst 0, 1) := by decide +kernel
theorem dX12_thrive_34 : decode cX12_thrive 34 = .ok (.invokevirtual 498, 3) := by decide +kernel
theorem dX12_thrive_37 : decode cX12_thrive 37 = .ok (.aload_n 0, 1) := by decide +kernel
theorem dX12_thrive_38 : decode cX12_thrive 38 = .ok (.iload_n 1, 1) := by decide +kernel
theorem dX12_thrive_39 : decode cX12_thrive 39 = .ok (.iconst 1, 1) := by decide +kernel
theorem dX12_thrive_40 : decode cX12_thrive 40 = .ok (.invokevirtual 504, 3) := by decide +kernel
theorem dX12_thrive_43 : decode cX12_thrive 43 = .ok (.iconst 0, 1) := by decide +kernel
theorem dX12_thrive_44 : decode cX12_thrive 44 = .ok (.istore 4, 2) := by decide +kernel
theorem dX12_thrive_46 : decode cX12_thrive 46 = .ok (.iload 4, 2) := by decide +kernel
theorem dX12_thrive_48 : decode cX12_thrive 48 = .ok (.iconst 3, 1) := by decide +kernel
theorem dX12_thrive_49 : decode cX12_thrive 49 = .ok (.if_icmp .ge 32, 3) := by decide +kernel
theorem dX12_thrive_52 : decode cX12_thrive 52 = .ok (.aload_n 0, 1) := by decide +kernel
theorem dX12_thrive_53 : decode cX12_thrive 53 = .ok (.getfield 113, 3) := by decide +kernel
theorem dX12_thrive_56 : decode cX12_thrive 56 = .ok (.iconst 0, 1) := by decide +kernel
theorem dX12_thrive_57 : decode cX12_thrive 57 = .ok (.iconst 3, 1) := by decide +kernel
theorem dX12_thrive_58 : decode cX12_thrive 58 = .ok (.iload_n 1, 1) := by decide +kernel
theorem dX12_thrive_59 : decode cX12_thrive 59 = .ok (.imul, 1) := by decide +kernel
theorem dX12_thrive_60 : decode cX12_thrive 60 = .ok (.iadd, 1) := by decide +kernel
theorem dX12_thrive_61 : decode cX12_thrive 61 = .ok (.iload 4, 2) := by decide +kernel
theorem dX12_thrive_63 : decode cX12_thrive 63 = .ok (.iadd, 1) := by decide +kernel
theorem dX12_thrive_64 : decode cX12_thrive 64 = .ok (.dup2, 1) := by decide +kernel
theorem dX12_thrive_65 : decode cX12_thrive 65 = .ok (.iaload, 1) := by decide +kernel
theorem dX12_thrive_66 : decode cX12_thrive 66 = .ok (.aload_n 0, 1) := by decide +kernel
theorem dX12_thrive_67 : decode cX12_thrive 67 = .ok (.getfield 122, 3) := by decide +kernel
theorem dX12_thrive_70 : decode cX12_thrive 70 = .ok (.iload 4, 2) := by decide +kernel
theorem dX12_thrive_72 : decode cX12_thrive 72 = .ok (.iaload, 1) := by decide +kernel
theorem dX12_thrive_73 : decode cX12_thrive 73 = .ok (.isub, 1) := by decide +kernel
theorem dX12_thrive_74 : decode cX12_thrive 74 = .ok (.iastore, 1) := by decide +kernel
theorem dX12_thrive_75 : decode cX12_thrive 75 = .ok (.iinc 4 1, 3) := by decide +kernel
theorem dX12_thrive_78 : decode cX12_thrive 78 = .ok (.goto (-32), 3) := by decide +kernel
theorem dX12_thrive_81 : decode cX12_thrive 81 = .ok (.aload_n 0, 1) := by decide +kernel
theorem dX12_thrive_82 : decode cX12_thrive 82 = .ok (.invokevirtual 469, 3) := by decide +kernel
theorem dX12_thrive_85 : decode cX12_thrive 85 = .ok (.istore 4, 2) := by decide +kernel
theorem dX12_thrive_87 : decode cX12_thrive 87 = .ok (.iinc 3 1, 3) := by decide +kernel
theorem dX12_thrive_90 : decode cX12_thrive 90 = .ok (.goto (-64), 3) := by decide +kernel
theorem dX12_thrive_93 : decode cX12_thrive 93 = .ok (.aload_n 0, 1) := by decide +kernel
theorem dX12_thrive_94 : decode cX12_thrive 94 = .ok (.getfield 113, 3) := by decide +kernel
theorem dX12_thrive_97 : decode cX12_thrive 97 = .ok (.bipush 15, 2) := by decide +kernel
theorem dX12_thrive_99 : decode cX12_thrive 99 = .ok (.iload_n 1, 1) := by decide +kernel
theorem dX12_thrive_100 : decode cX12_thrive 100 = .ok (.iadd, 1) := by decide +kernel
theorem dX12_thrive_101 : decode cX12_thrive 101 = .ok (.iaload, 1) := by decide +kernel
theorem dX12_thrive_102 : decode cX12_thrive 102 = .ok (.istore_n 3, 1) := by decide +kernel
theorem dX12_thrive_103 : decode cX12_thrive 103 = .ok (.aload_n 0, 1) := by decide +kernel
theorem dX12_thrive_104 : decode cX12_thrive 104 = .ok (.invokevirtual 525, 3) := by decide +kernel
theorem dX12_thrive_107 : decode cX12_thrive 107 = .ok (.iload_n 3, 1) := by decide +kernel
theorem dX12_thrive_108 : decode cX12_thrive 108 = .ok (.ireturn, 1) := by decide +kernel
abbrev mi_X12_thrive : MI := (zTM, RX12, yX12_thrive, cX12_thrive, 5, (some .int), 8)
theorem cal_X12_thrive : zCalV mi_X12_thrive 2 := ⟨⟨zTB_i9 31 (by decide +kernel), zTB_i9 29 (by decide +kernel), zTB_i9 30 (by decide +kernel), zTB_i1 13 (by decide +kernel)⟩, ⟨by decide, by decide, by decide +kernel⟩, by decide⟩
noncomputable def X12_thrive_L2 (x1 : Int32) : Nat → Int32 → Mem → Option (Mem)
  | 0, _, _ => none
  | n + 1, c4, M =>
    if 3 ≤ c4 then
      some M
    else
    gd_ (inb ((0 + (3 * x1)) + c4) (42) = true) (
    gd_ (inb c4 (3) = true) (
    lt_ (uI M 33 (((0 + (3 * x1)) + c4).toNatClampNeg) ((M.1 33 (((0 + (3 * x1)) + c4).toNatClampNeg)) - (M.1 36 c4.toNatClampNeg))) fun M11 =>
    X12_thrive_L2 x1 n (c4 + 1) M11))
noncomputable def X12_thrive_L1 (x1 : Int32) (x2 : Int32) : Nat → Int32 → Mem → Option (Mem)
  | 0, _, _ => none
  | n + 1, c3, M =>
    if x2 ≤ c3 then
      some M
    else
    bo_ (X12_layBest x1 0 M) fun M6 =>
    bo_ (X12_layBestRow x1 1 M6) fun M7 =>
    b1_ (α := Mem) (X12_thrive_L2 x1 zFU 0 M7) fun M12 =>
    bp_ (X12_goWeek M12) fun v13 M14 =>
    X12_thrive_L1 x1 x2 n (c3 + 1) M14
noncomputable def X12_thrive (x1 : Int32) (x2 : Int32) (M : Mem) : Option (Int32 × Mem) :=
  bo_ (X12_isMan x1 M) fun b1 =>
  if b1 = true then
    if (X12_isIn x2 0 12) = true then
      bo_ (X12_keepNow M) fun M4 =>
      b1_ (α := Mem) (X12_thrive_L1 x1 x2 zFU 0 M4) fun M15 =>
      gd_ (inb (15 + x1) (42) = true) (
      lt_ (α := Int32) (M15.1 33 ((15 + x1).toNatClampNeg)) fun y17 =>
      bo_ (X12_bringBack M15) fun M18 =>
      some (y17, M18))
    else
    some ((-1), M)
  else
  some ((-1), M)
set_option maxRecDepth 100000 in
set_option maxHeartbeats 4000000 in
theorem X12_thrive_L2_ok (G : Gh) (x1 : Int32) (x2 : Int32) (c3 : Int32) {dn : Option (Mem) → Option (Option Value × Mem)} (hs : dn none = none) (hx : ∀ (M12 : Mem), Wr G mi_X12_thrive dn 81 [some (.ref (G.2.2.2 (0))), some (.int x1), some (.int x2), some (.int c3), none] [] M12 (some M12)) : ∀ (n : Nat) (c4 : Int32) (M : Mem), Wr G mi_X12_thrive dn 46 [some (.ref (G.2.2.2 (0))), some (.int x1), some (.int x2), some (.int c3), some (.int c4)] [] M (X12_thrive_L2 x1 n c4 M) := by
  intro n
  induction n with
  | zero => intro c4 M; exact r_none (by exact hs)
  | succ n ih =>
    intro c4 M
    rw [X12_thrive_L2]
    refine r_iload dX12_thrive_46 rfl ?_
    refine r_iconst (x := 3) dX12_thrive_48 rfl ?_
    refine r_icmp_ge (tgt := 81) dX12_thrive_49 rfl (fun h8 => ?_) (fun h8 => ?_)
    · exact r_lk (hx M) (And.intro rfl (And.intro rfl (And.intro rfl (And.intro rfl True.intro))))
    refine r_aload_n dX12_thrive_52 rfl ?_
    refine r_getf (v := .ref (G.2.2.2 (33))) dX12_thrive_53 fM_0_48 kX12 (by decide) lkf_X12_113 rfl ?_
    refine r_iconst (x := 0) dX12_thrive_56 rfl ?_
    refine r_iconst (x := 3) dX12_thrive_57 rfl ?_
    refine r_iload_n dX12_thrive_58 rfl ?_
    refine r_imul dX12_thrive_59 ?_
    refine r_iadd dX12_thrive_60 ?_
    refine r_iload dX12_thrive_61 rfl ?_
    refine r_iadd dX12_thrive_63 ?_
    refine r_dup2 dX12_thrive_64 rfl rfl ?_
    refine r_gd (by exact hs) (fun g9 => ?_)
    refine r_iald dX12_thrive_65 aM_33 (inb_in g9) rfl ?_
    refine r_aload_n dX12_thrive_66 rfl ?_
    refine r_getf (v := .ref (G.2.2.2 (36))) dX12_thrive_67 fM_0_53 kX12 (by decide) lkf_X12_122 rfl ?_
    refine r_iload dX12_thrive_70 rfl ?_
    refine r_gd (by exact hs) (fun g10 => ?_)
    refine r_iald dX12_thrive_72 aM_36 (inb_in g10) rfl ?_
    refine r_isub dX12_thrive_73 ?_
    refine r_iast dX12_thrive_74 aM_33 (inb_in g9) rfl (fun M11 => ?_)
    refine r_iinc (y := c4 + 1) (lv' := [some (.ref (G.2.2.2 (0))), some (.int x1), some (.int x2), some (.int c3), some (.int (c4 + 1))]) dX12_thrive_75 rfl rfl (Nat.le_of_ble_eq_true rfl) rfl rfl ?_
    refine r_goto (tgt := 46) dX12_thrive_78 rfl ?_
    exact r_lk (ih (c4 + 1) M11) (And.intro rfl (And.intro rfl (And.intro rfl (And.intro rfl (And.intro rfl True.intro)))))
set_option maxRecDepth 100000 in
set_option maxHeartbeats 4000000 in
theorem X12_thrive_L1_ok (G : Gh) (x1 : Int32) (x2 : Int32) {dn : Option (Mem) → Option (Option Value × Mem)} (hs : dn none = none) (hx : ∀ (M15 : Mem), Wr G mi_X12_thrive dn 93 [some (.ref (G.2.2.2 (0))), some (.int x1), none, none, none] [] M15 (some M15)) : ∀ (n : Nat) (c3 : Int32) (M : Mem), Wr G mi_X12_thrive dn 26 [some (.ref (G.2.2.2 (0))), some (.int x1), some (.int x2), some (.int c3), none] [] M (X12_thrive_L1 x1 x2 n c3 M) := by
  intro n
  induction n with
  | zero => intro c3 M; exact r_none (by exact hs)
  | succ n ih =>
    intro c3 M
    rw [X12_thrive_L1]
    refine r_iload_n dX12_thrive_26 rfl ?_
    refine r_iload_n dX12_thrive_27 rfl ?_
    refine r_icmp_ge (tgt := 93) dX12_thrive_28 rfl (fun h5 => ?_) (fun h5 => ?_)
    · exact r_lk (hx M) (And.intro rfl (And.intro rfl True.intro))
    refine r_aload_n dX12_thrive_31 rfl ?_
    refine r_iload_n dX12_thrive_32 rfl ?_
    refine r_iconst (x := 0) dX12_thrive_33 rfl ?_
    refine c_OV (by exact hs) (inv_V (mi := mi_X12_thrive) (b := 0) (rest := []) (X12_layBest_ok G x1 0 M) rfl (by decide) dX12_thrive_34 lkm_X12_498 cal_X12_layBest cM_0 rfl rfl (Nat.le_of_ble_eq_true rfl) rfl) (fun M6 => ?_)
    refine r_aload_n dX12_thrive_37 rfl ?_
    refine r_iload_n dX12_thrive_38 rfl ?_
    refine r_iconst (x := 1) dX12_thrive_39 rfl ?_
    refine c_OV (by exact hs) (inv_V (mi := mi_X12_thrive) (b := 0) (rest := []) (X12_layBestRow_ok G x1 1 M6) rfl (by decide) dX12_thrive_40 lkm_X12_504 cal_X12_layBestRow cM_0 rfl rfl (Nat.le_of_ble_eq_true rfl) rfl) (fun M7 => ?_)
    refine r_iconst (x := 0) dX12_thrive_43 rfl ?_
    refine r_istore (lv' := [some (.ref (G.2.2.2 (0))), some (.int x1), some (.int x2), some (.int c3), some (.int 0)]) dX12_thrive_44 (Nat.le_of_ble_eq_true rfl) rfl rfl ?_
    refine r_jB1 (j := 81) (lvj := fun M12 => [some (.ref (G.2.2.2 (0))), some (.int x1), some (.int x2), some (.int c3), none]) (stj := fun M12 => []) (Mj := fun M12 => M12) (fun M12 => ?_) (fun hj81 => ?_)
    · refine r_aload_n dX12_thrive_81 rfl ?_
      refine c_OIM (by exact hs) (inv_V (mi := mi_X12_thrive) (b := 0) (rest := []) (X12_goWeek_ok G M12) rfl (by decide) dX12_thrive_82 lkm_X12_469 cal_X12_goWeek cM_0 rfl rfl (Nat.le_of_ble_eq_true rfl) rfl) (fun v13 M14 => ?_)
      refine r_istore (lv' := [some (.ref (G.2.2.2 (0))), some (.int x1), some (.int x2), some (.int c3), some (.int v13)]) dX12_thrive_85 (Nat.le_of_ble_eq_true rfl) rfl rfl ?_
      refine r_iinc (y := c3 + 1) (lv' := [some (.ref (G.2.2.2 (0))), some (.int x1), some (.int x2), some (.int (c3 + 1)), some (.int v13)]) dX12_thrive_87 rfl rfl (Nat.le_of_ble_eq_true rfl) rfl rfl ?_
      refine r_goto (tgt := 26) dX12_thrive_90 rfl ?_
      exact r_lk (ih (c3 + 1) M14) (And.intro rfl (And.intro rfl (And.intro rfl (And.intro rfl True.intro))))
    exact r_lk (X12_thrive_L2_ok G x1 x2 c3 (by exact hs) hj81 zFU 0 M7) (And.intro rfl (And.intro rfl (And.intro rfl (And.intro rfl (And.intro rfl True.intro)))))
set_option maxRecDepth 100000 in
set_option maxHeartbeats 4000000 in
theorem X12_thrive_ok (G : Gh) (x1 : Int32) (x2 : Int32) (M : Mem) : Mt G mi_X12_thrive [.ref (G.2.2.2 (0)), .int x1, .int x2] M ((dO dIM) (X12_thrive x1 x2 M)) := by
  refine Mt_of (lv := [some (.ref (G.2.2.2 (0))), some (.int x1), some (.int x2)]) (by decide) rfl (Nat.le_of_ble_eq_true rfl) rfl ?_
  refine r_le (lv' := [some (.ref (G.2.2.2 (0))), some (.int x1), some (.int x2), none, none]) (And.intro rfl (And.intro rfl (And.intro rfl True.intro))) ?_
  unfold X12_thrive
  refine r_aload_n dX12_thrive_0 rfl ?_
  refine r_iload_n dX12_thrive_1 rfl ?_
  refine c_OZ rfl (inv_V (mi := mi_X12_thrive) (b := 0) (rest := []) (X12_isMan_ok G x1 M) rfl (by decide) dX12_thrive_2 lkm_X12_426 cal_X12_isMan cM_0 rfl rfl (Nat.le_of_ble_eq_true rfl) rfl) (fun b1 => ?_)
  refine r_ifz_eq (tgt := 18) dX12_thrive_5 rfl (fun h2 => ?_) (fun h2 => ?_)
  · refine r_iload_n dX12_thrive_8 rfl ?_
    refine r_iconst (x := 0) dX12_thrive_9 rfl ?_
    refine r_bipush (x := 12) dX12_thrive_10 rfl ?_
    refine c_Z (inv_S (mi := mi_X12_thrive) (rest := []) (X12_isIn_ok G x2 0 12 M) rfl (by decide) dX12_thrive_12 lkm_X12_401 cal_X12_isIn rfl (Nat.le_of_ble_eq_true rfl) rfl) ?_
    refine r_ifz_ne (tgt := 20) dX12_thrive_15 rfl (fun h3 => ?_) (fun h3 => ?_)
    · refine r_aload_n dX12_thrive_20 rfl ?_
      refine c_OV rfl (inv_V (mi := mi_X12_thrive) (b := 0) (rest := []) (X12_keepNow_ok G M) rfl (by decide) dX12_thrive_21 lkm_X12_522 cal_X12_keepNow cM_0 rfl rfl (Nat.le_of_ble_eq_true rfl) rfl) (fun M4 => ?_)
      refine r_iconst (x := 0) dX12_thrive_24 rfl ?_
      refine r_istore_n (lv' := [some (.ref (G.2.2.2 (0))), some (.int x1), some (.int x2), some (.int 0), none]) dX12_thrive_25 (Nat.le_of_ble_eq_true rfl) rfl rfl ?_
      refine r_jB1 (j := 93) (lvj := fun M15 => [some (.ref (G.2.2.2 (0))), some (.int x1), none, none, none]) (stj := fun M15 => []) (Mj := fun M15 => M15) (fun M15 => ?_) (fun hj93 => ?_)
      · refine r_aload_n dX12_thrive_93 rfl ?_
        refine r_getf (v := .ref (G.2.2.2 (33))) dX12_thrive_94 fM_0_48 kX12 (by decide) lkf_X12_113 rfl ?_
        refine r_bipush (x := 15) dX12_thrive_97 rfl ?_
        refine r_iload_n dX12_thrive_99 rfl ?_
        refine r_iadd dX12_thrive_100 ?_
        refine r_gd rfl (fun g16 => ?_)
        refine r_iald dX12_thrive_101 aM_33 (inb_in g16) rfl ?_
        refine r_letI (fun y17 => ?_)
        refine r_istore_n (lv' := [some (.ref (G.2.2.2 (0))), some (.int x1), none, some (.int y17), none]) dX12_thrive_102 (Nat.le_of_ble_eq_true rfl) rfl rfl ?_
        refine r_aload_n dX12_thrive_103 rfl ?_
        refine c_OV rfl (inv_V (mi := mi_X12_thrive) (b := 0) (rest := []) (X12_bringBack_ok G M15) rfl (by decide) dX12_thrive_104 lkm_X12_525 cal_X12_bringBack cM_0 rfl rfl (Nat.le_of_ble_eq_true rfl) rfl) (fun M18 => ?_)
        refine r_iload_n dX12_thrive_107 rfl ?_
        exact r_iret (ty := .int) dX12_thrive_108 rfl rfl rfl
      exact r_lk (X12_thrive_L1_ok G x1 x2 rfl hj93 zFU 0 M4) (And.intro rfl (And.intro rfl (And.intro rfl (And.intro rfl True.intro))))
    refine r_iconst (x := (-1)) dX12_thrive_18 rfl ?_
    exact r_iret (ty := .int) dX12_thrive_19 rfl rfl rfl
  refine r_iconst (x := (-1)) dX12_thrive_18 rfl ?_
  exact r_iret (ty := .int) dX12_thrive_19 rfl rfl rfl

theorem dX12_saves_0 : decode cX12_saves 0 = .ok (.aload_n 0, 1) := by decide +kernel
theorem dX12_saves_1 : decode cX12_saves 1 = .ok (.iload_n 1, 1) := by decide +kernel
theorem dX12_saves_2 : decode cX12_saves 2 = .ok (.invokevirtual 426, 3) := by decide +kernel
theorem dX12_saves_5 : decode cX12_saves 5 = .ok (.ifCond .eq 21, 3) := by decide +kernel
theorem dX12_saves_8 : decode cX12_saves 8 = .ok (.aload_n 0, 1) := by decide +kernel
theorem dX12_saves_9 : decode cX12_saves 9 = .ok (.iload_n 2, 1) := by decide +kernel
theorem dX12_saves_10 : decode cX12_saves 10 = .ok (.invokevirtual 436, 3) := by decide +kernel
theorem dX12_saves_13 : decode cX12_saves 13 = .ok (.ifCond .eq 13, 3) := by decide +kernel
theorem dX12_saves_16 : decode cX12_saves 16 = .ok (.iload_n 3, 1) := by decide +kernel
theorem dX12_saves_17 : decode cX12_saves 17 = .ok (.iconst 0, 1) := by decide +kernel
theorem dX12_saves_18 : decode cX12_saves 18 = .ok (.bipush 99, 2) := by decide +kernel
theorem dX12_saves_20 : decode cX12_saves 20 = .ok (.invokestatic 401, 3) := by decide +kernel
theorem dX12_saves_23 : decode cX12_saves 23 = .ok (.ifCond .ne 5, 3) := by decide +kernel
theorem dX12_saves_26 : decode cX12_saves 26 = .ok (.iconst (-1), 1) := by decide +kernel
theorem dX12_saves_27 : decode cX12_saves 27 = .ok (.ireturn, 1) := by decide +kernel
theorem dX12_saves_28 : decode cX12_saves 28 = .ok (.aload_n 0, 1) := by decide +kernel
theorem dX12_saves_29 : decode cX12_saves 29 = .ok (.iload_n 1, 1) := by decide +kernel
theorem dX12_saves_30 : decode cX12_saves 30 = .ok (.iload_n 2, 1) := by decide +kernel
theorem dX12_saves_31 : decode cX12_saves 31 = .ok (.invokevirtual 439, 3) := by decide +kernel
theorem dX12_saves_34 : decode cX12_saves 34 = .ok (.istore 4, 2) := by decide +kernel
theorem dX12_saves_36 : decode cX12_saves 36 = .ok (.iconst 0, 1) := by decide +kernel
theorem dX12_saves_37 : decode cX12_saves 37 = .ok (.istore 5, 2) := by decide +kernel
theorem dX12_saves_39 : decode cX12_saves 39 = .ok (.iload 5, 2) := by decide +kernel
theorem dX12_saves_41 : decode cX12_saves 41 = .ok (.bipush 60, 2) := by decide +kernel
theorem dX12_saves_43 : decode cX12_saves 43 = .ok (.if_icmp .gt 29, 3) := by decide +kernel
theorem dX12_saves_46 : decode cX12_saves 46 = .ok (.iload 4, 2) := by decide +kernel
theorem dX12_saves_48 : decode cX12_saves 48 = .ok (.iload_n 3, 1) := by decide +kernel
theorem dX12_saves_49 : decode cX12_saves 49 = .ok (.if_icmp .lt 6, 3) := by decide +kernel
theorem dX12_saves_52 : decode cX12_saves 52 = .ok (.iload 5, 2) := by decide +kernel
theorem dX12_saves_54 : decode cX12_saves 54 = .ok (.ireturn, 1) := by decide +kernel
theorem dX12_saves_55 : decode cX12_saves 55 = .ok (.iload 4, 2) := by decide +kernel
theorem dX12_saves_57 : decode cX12_saves 57 = .ok (.aload_n 0, 1) := by decide +kernel
theorem dX12_saves_58 : decode cX12_saves 58 = .ok (.iload_n 1, 1) := by decide +kernel
theorem dX12_saves_59 : decode cX12_saves 59 = .ok (.iload_n 2, 1) := by decide +kernel
theorem dX12_saves_60 : decode cX12_saves 60 = .ok (.invokevirtual 433, 3) := by decide +kernel
theorem dX12_saves_63 : decode cX12_saves 63 = .ok (.iadd, 1) := by decide +kernel
theorem dX12_saves_64 : decode cX12_saves 64 = .ok (.istore 4, 2) := by decide +kernel
theorem dX12_saves_66 : decode cX12_saves 66 = .ok (.iinc 5 1, 3) := by decide +kernel
theorem dX12_saves_69 : decode cX12_saves 69 = .ok (.goto (-30), 3) := by decide +kernel
theorem dX12_saves_72 : decode cX12_saves 72 = .ok (.iconst (-1), 1) := by decide +kernel
theorem dX12_saves_73 : decode cX12_saves 73 = .ok (.ireturn, 1) := by decide +kernel
abbrev mi_X12_saves : MI := (zTM, RX12, yX12_saves, cX12_saves, 6, (some .int), 4)
theorem cal_X12_saves : zCalV mi_X12_saves 3 := ⟨⟨zTB_i9 35 (by decide +kernel), zTB_i9 33 (by decide +kernel), zTB_i9 34 (by decide +kernel), zTB_i1 13 (by decide +kernel)⟩, ⟨by decide, by decide, by decide +kernel⟩, by decide⟩
noncomputable def X12_saves_L1 (x1 : Int32) (x2 : Int32) (x3 : Int32) (M : Mem) : Nat → Int32 → Int32 → Option (Int32)
  | 0, _, _ => none
  | n + 1, c4, c5 =>
    if 60 < c5 then
      some (-1)
    else
    if c4 < x3 then
      bo_ (X12_payOf x1 x2 M) fun v9 =>
      X12_saves_L1 x1 x2 x3 M n (c4 + v9) (c5 + 1)
    else
    some c5
noncomputable def X12_saves (x1 : Int32) (x2 : Int32) (x3 : Int32) (M : Mem) : Option (Int32) :=
  bo_ (X12_isMan x1 M) fun b1 =>
  if b1 = true then
    bo_ (X12_isKind x2 M) fun b3 =>
    if b3 = true then
      if (X12_isIn x3 0 99) = true then
        bo_ (X12_inPurse x1 x2 M) fun v6 =>
        X12_saves_L1 x1 x2 x3 M zFU v6 0
      else
      some (-1)
    else
    some (-1)
  else
  some (-1)
set_option maxRecDepth 100000 in
set_option maxHeartbeats 4000000 in
theorem X12_saves_L1_ok (G : Gh) (x1 : Int32) (x2 : Int32) (x3 : Int32) (M : Mem) : ∀ (n : Nat) (c4 : Int32) (c5 : Int32), Wr G mi_X12_saves (dO (dI M)) 39 [some (.ref (G.2.2.2 (0))), some (.int x1), some (.int x2), some (.int x3), some (.int c4), some (.int c5)] [] M (X12_saves_L1 x1 x2 x3 M n c4 c5) := by
  intro n
  induction n with
  | zero => intro c4 c5; exact r_none rfl
  | succ n ih =>
    intro c4 c5
    rw [X12_saves_L1]
    refine r_iload dX12_saves_39 rfl ?_
    refine r_bipush (x := 60) dX12_saves_41 rfl ?_
    refine r_icmp_gt (tgt := 72) dX12_saves_43 rfl (fun h7 => ?_) (fun h7 => ?_)
    · refine r_iconst (x := (-1)) dX12_saves_72 rfl ?_
      exact r_iret (ty := .int) dX12_saves_73 rfl rfl rfl
    refine r_iload dX12_saves_46 rfl ?_
    refine r_iload_n dX12_saves_48 rfl ?_
    refine r_icmp_lt (tgt := 55) dX12_saves_49 rfl (fun h8 => ?_) (fun h8 => ?_)
    · refine r_iload dX12_saves_55 rfl ?_
      refine r_aload_n dX12_saves_57 rfl ?_
      refine r_iload_n dX12_saves_58 rfl ?_
      refine r_iload_n dX12_saves_59 rfl ?_
      refine c_OI rfl (inv_V (mi := mi_X12_saves) (b := 0) (rest := [.int c4]) (X12_payOf_ok G x1 x2 M) rfl (by decide) dX12_saves_60 lkm_X12_433 cal_X12_payOf cM_0 rfl rfl (Nat.le_of_ble_eq_true rfl) rfl) (fun v9 => ?_)
      refine r_iadd dX12_saves_63 ?_
      refine r_istore (lv' := [some (.ref (G.2.2.2 (0))), some (.int x1), some (.int x2), some (.int x3), some (.int (c4 + v9)), some (.int c5)]) dX12_saves_64 (Nat.le_of_ble_eq_true rfl) rfl rfl ?_
      refine r_iinc (y := c5 + 1) (lv' := [some (.ref (G.2.2.2 (0))), some (.int x1), some (.int x2), some (.int x3), some (.int (c4 + v9)), some (.int (c5 + 1))]) dX12_saves_66 rfl rfl (Nat.le_of_ble_eq_true rfl) rfl rfl ?_
      refine r_goto (tgt := 39) dX12_saves_69 rfl ?_
      exact r_lk (ih (c4 + v9) (c5 + 1)) (And.intro rfl (And.intro rfl (And.intro rfl (And.intro rfl (And.intro rfl (And.intro rfl True.intro))))))
    refine r_iload dX12_saves_52 rfl ?_
    exact r_iret (ty := .int) dX12_saves_54 rfl rfl rfl
set_option maxRecDepth 100000 in
set_option maxHeartbeats 4000000 in
theorem X12_saves_ok (G : Gh) (x1 : Int32) (x2 : Int32) (x3 : Int32) (M : Mem) : Mt G mi_X12_saves [.ref (G.2.2.2 (0)), .int x1, .int x2, .int x3] M ((dO (dI M)) (X12_saves x1 x2 x3 M)) := by
  refine Mt_of (lv := [some (.ref (G.2.2.2 (0))), some (.int x1), some (.int x2), some (.int x3)]) (by decide) rfl (Nat.le_of_ble_eq_true rfl) rfl ?_
  refine r_le (lv' := [some (.ref (G.2.2.2 (0))), some (.int x1), some (.int x2), some (.int x3), none, none]) (And.intro rfl (And.intro rfl (And.intro rfl (And.intro rfl True.intro)))) ?_
  unfold X12_saves
  refine r_aload_n dX12_saves_0 rfl ?_
  refine r_iload_n dX12_saves_1 rfl ?_
  refine c_OZ rfl (inv_V (mi := mi_X12_saves) (b := 0) (rest := []) (X12_isMan_ok G x1 M) rfl (by decide) dX12_saves_2 lkm_X12_426 cal_X12_isMan cM_0 rfl rfl (Nat.le_of_ble_eq_true rfl) rfl) (fun b1 => ?_)
  refine r_ifz_eq (tgt := 26) dX12_saves_5 rfl (fun h2 => ?_) (fun h2 => ?_)
  · refine r_aload_n dX12_saves_8 rfl ?_
    refine r_iload_n dX12_saves_9 rfl ?_
    refine c_OZ rfl (inv_V (mi := mi_X12_saves) (b := 0) (rest := []) (X12_isKind_ok G x2 M) rfl (by decide) dX12_saves_10 lkm_X12_436 cal_X12_isKind cM_0 rfl rfl (Nat.le_of_ble_eq_true rfl) rfl) (fun b3 => ?_)
    refine r_ifz_eq (tgt := 26) dX12_saves_13 rfl (fun h4 => ?_) (fun h4 => ?_)
    · refine r_iload_n dX12_saves_16 rfl ?_
      refine r_iconst (x := 0) dX12_saves_17 rfl ?_
      refine r_bipush (x := 99) dX12_saves_18 rfl ?_
      refine c_Z (inv_S (mi := mi_X12_saves) (rest := []) (X12_isIn_ok G x3 0 99 M) rfl (by decide) dX12_saves_20 lkm_X12_401 cal_X12_isIn rfl (Nat.le_of_ble_eq_true rfl) rfl) ?_
      refine r_ifz_ne (tgt := 28) dX12_saves_23 rfl (fun h5 => ?_) (fun h5 => ?_)
      · refine r_aload_n dX12_saves_28 rfl ?_
        refine r_iload_n dX12_saves_29 rfl ?_
        refine r_iload_n dX12_saves_30 rfl ?_
        refine c_OI rfl (inv_V (mi := mi_X12_saves) (b := 0) (rest := []) (X12_inPurse_ok G x1 x2 M) rfl (by decide) dX12_saves_31 lkm_X12_439 cal_X12_inPurse cM_0 rfl rfl (Nat.le_of_ble_eq_true rfl) rfl) (fun v6 => ?_)
        refine r_istore (lv' := [some (.ref (G.2.2.2 (0))), some (.int x1), some (.int x2), some (.int x3), some (.int v6), none]) dX12_saves_34 (Nat.le_of_ble_eq_true rfl) rfl rfl ?_
        refine r_iconst (x := 0) dX12_saves_36 rfl ?_
        refine r_istore (lv' := [some (.ref (G.2.2.2 (0))), some (.int x1), some (.int x2), some (.int x3), some (.int v6), some (.int 0)]) dX12_saves_37 (Nat.le_of_ble_eq_true rfl) rfl rfl ?_
        exact r_lk (X12_saves_L1_ok G x1 x2 x3 M zFU v6 0) (And.intro rfl (And.intro rfl (And.intro rfl (And.intro rfl (And.intro rfl (And.intro rfl True.intro))))))
      refine r_iconst (x := (-1)) dX12_saves_26 rfl ?_
      exact r_iret (ty := .int) dX12_saves_27 rfl rfl rfl
    refine r_iconst (x := (-1)) dX12_saves_26 rfl ?_
    exact r_iret (ty := .int) dX12_saves_27 rfl rfl rfl
  refine r_iconst (x := (-1)) dX12_saves_26 rfl ?_
  exact r_iret (ty := .int) dX12_saves_27 rfl rfl rfl

theorem dX12_richest_0 : decode cX12_richest 0 = .ok (.iconst (-1), 1) := by decide +kernel
theorem dX12_richest_1 : decode cX12_richest 1 = .ok (.istore_n 1, 1) := by decide +kernel
theorem dX12_richest_2 : decode cX12_richest 2 = .ok (.iconst 0, 1) := by decide +kernel
theorem dX12_richest_3 : decode cX12_richest 3 = .ok (.istore_n 2, 1) := by decide +kernel
theorem dX12_richest_4 : decode cX12_richest 4 = .ok (.iload_n 2, 1) := by decide +kernel
theorem dX12_richest_5 : decode cX12_richest 5 = .ok (.aload_n 0, 1) := by decide +kernel
theorem dX12_richest_6 : decode cX12_richest 6 = .ok (.invokevirtual 398, 3) := by decide +kernel
theorem dX12_richest_9 : decode cX12_richest 9 = .ok (.if_icmp .ge 30, 3) := by decide +kernel
theorem dX12_richest_12 : decode cX12_richest 12 = .ok (.iload_n 1, 1) := by decide +kernel
theorem dX12_richest_13 : decode cX12_richest 13 = .ok (.ifCond .lt 18, 3) := by decide +kernel
theorem dX12_richest_16 : decode cX12_richest 16 = .ok (.aload_n 0, 1) := by decide +kernel
theorem dX12_richest_17 : decode cX12_richest 17 = .ok (.iconst 0, 1) := by decide +kernel
theorem dX12_richest_18 : decode cX12_richest 18 = .ok (.iload_n 2, 1) := by decide +kernel
theorem dX12_richest_19 : decode cX12_richest 19 = .ok (.invokevirtual 430, 3) := by decide +kernel
theorem dX12_richest_22 : decode cX12_richest 22 = .ok (.aload_n 0, 1) := by decide +kernel
theorem dX12_richest_23 : decode cX12_richest 23 = .ok (.iconst 0, 1) := by decide +kernel
theorem dX12_richest_24 : decode cX12_richest 24 = .ok (.iload_n 1, 1) := by decide +kernel
theorem dX12_richest_25 : decode cX12_richest 25 = .ok (.invokevirtual 430, 3) := by decide +kernel
theorem dX12_richest_28 : decode cX12_richest 28 = .ok (.if_icmp .le 5, 3) := by decide +kernel
theorem dX12_richest_31 : decode cX12_richest 31 = .ok (.iload_n 2, 1) := by decide +kernel
theorem dX12_richest_32 : decode cX12_richest 32 = .ok (.istore_n 1, 1) := by decide +kernel
theorem dX12_richest_33 : decode cX12_richest 33 = .ok (.iinc 2 1, 3) := by decide +kernel
theorem dX12_richest_36 : decode cX12_richest 36 = .ok (.goto (-32), 3) := by decide +kernel
theorem dX12_richest_39 : decode cX12_richest 39 = .ok (.iload_n 1, 1) := by decide +kernel
theorem dX12_richest_40 : decode cX12_richest 40 = .ok (.ireturn, 1) := by decide +kernel
abbrev mi_X12_richest : MI := (zTM, RX12, yX12_richest, cX12_richest, 3, (some .int), 3)
theorem cal_X12_richest : zCalV mi_X12_richest 0 := ⟨⟨zTB_i9 39 (by decide +kernel), zTB_i9 37 (by decide +kernel), zTB_i9 38 (by decide +kernel), zTB_i1 13 (by decide +kernel)⟩, ⟨by decide, by decide, by decide +kernel⟩, by decide⟩
noncomputable def X12_richest_L1 (M : Mem) : Nat → Int32 → Int32 → Option (Int32)
  | 0, _, _ => none
  | n + 1, c1, c2 =>
    bo_ (X12_many M) fun v1 =>
    if v1 ≤ c2 then
      some c1
    else
    b1_ (α := Int32) (
      b1_ (α := Bool) (
        if c1 < 0 then
          some true
        else
        bo_ (X12_sumOf 0 c2 M) fun v4 =>
        bo_ (X12_sumOf 0 c1 M) fun v5 =>
        if v4 ≤ v5 then
          some false
        else
        some true) fun t7 =>
      if t7 = true then
        some c2
      else
      some c1) fun y9 =>
    X12_richest_L1 M n y9 (c2 + 1)
noncomputable def X12_richest (M : Mem) : Option (Int32) :=
  b1_ (α := Int32) (X12_richest_L1 M zFU (-1) 0) fun e10 =>
  some e10
set_option maxRecDepth 100000 in
set_option maxHeartbeats 4000000 in
theorem X12_richest_L1_ok (G : Gh) (M : Mem) {dn : Option (Int32) → Option (Option Value × Mem)} (hs : dn none = none) (hx : ∀ (e10 : Int32), Wr G mi_X12_richest dn 39 [none, some (.int e10), none] [] M (some e10)) : ∀ (n : Nat) (c1 : Int32) (c2 : Int32), Wr G mi_X12_richest dn 4 [some (.ref (G.2.2.2 (0))), some (.int c1), some (.int c2)] [] M (X12_richest_L1 M n c1 c2) := by
  intro n
  induction n with
  | zero => intro c1 c2; exact r_none (by exact hs)
  | succ n ih =>
    intro c1 c2
    rw [X12_richest_L1]
    refine r_iload_n dX12_richest_4 rfl ?_
    refine r_aload_n dX12_richest_5 rfl ?_
    refine c_OI (by exact hs) (inv_V (mi := mi_X12_richest) (b := 0) (rest := [.int c2]) (X12_many_ok G M) rfl (by decide) dX12_richest_6 lkm_X12_398 cal_X12_many cM_0 rfl rfl (Nat.le_of_ble_eq_true rfl) rfl) (fun v1 => ?_)
    refine r_icmp_ge (tgt := 39) dX12_richest_9 rfl (fun h2 => ?_) (fun h2 => ?_)
    · exact r_lk (hx c1) (And.intro rfl True.intro)
    refine r_iload_n dX12_richest_12 rfl ?_
    refine r_jB1 (j := 33) (lvj := fun y9 => [some (.ref (G.2.2.2 (0))), some (.int y9), some (.int c2)]) (stj := fun y9 => []) (Mj := fun y9 => M) (fun y9 => ?_) (fun hj33 => ?_)
    · refine r_iinc (y := c2 + 1) (lv' := [some (.ref (G.2.2.2 (0))), some (.int y9), some (.int (c2 + 1))]) dX12_richest_33 rfl rfl (Nat.le_of_ble_eq_true rfl) rfl rfl ?_
      refine r_goto (tgt := 4) dX12_richest_36 rfl ?_
      exact r_lk (ih y9 (c2 + 1)) (And.intro rfl (And.intro rfl (And.intro rfl True.intro)))
    refine r_cB (jX := 31) (jY := 33) (lvX := [some (.ref (G.2.2.2 (0))), none, some (.int c2)]) (lvY := [some (.ref (G.2.2.2 (0))), some (.int c1), some (.int c2)]) (stX := []) (M1 := M) (fun h8 => ?_) (fun h8 => ?_) (fun hX31 hY33 => ?_)
    · refine r_eq (if_pos rfl) ?_
      refine r_iload_n dX12_richest_31 rfl ?_
      refine r_istore_n (lv' := [some (.ref (G.2.2.2 (0))), some (.int c2), some (.int c2)]) dX12_richest_32 (Nat.le_of_ble_eq_true rfl) rfl rfl ?_
      exact r_lk (hj33 c2) (And.intro rfl (And.intro rfl (And.intro rfl True.intro)))
    · refine r_eq (if_neg (by decide)) ?_
      exact r_lk (hj33 c1) (And.intro rfl (And.intro rfl (And.intro rfl True.intro)))
    refine r_if_lt (tgt := 31) dX12_richest_13 rfl (fun h3 => ?_) (fun h3 => ?_)
    · exact r_lk hX31 (And.intro rfl (And.intro rfl True.intro))
    refine r_aload_n dX12_richest_16 rfl ?_
    refine r_iconst (x := 0) dX12_richest_17 rfl ?_
    refine r_iload_n dX12_richest_18 rfl ?_
    refine c_OI (by exact hs) (inv_V (mi := mi_X12_richest) (b := 0) (rest := []) (X12_sumOf_ok G 0 c2 M) rfl (by decide) dX12_richest_19 lkm_X12_430 cal_X12_sumOf cM_0 rfl rfl (Nat.le_of_ble_eq_true rfl) rfl) (fun v4 => ?_)
    refine r_aload_n dX12_richest_22 rfl ?_
    refine r_iconst (x := 0) dX12_richest_23 rfl ?_
    refine r_iload_n dX12_richest_24 rfl ?_
    refine c_OI (by exact hs) (inv_V (mi := mi_X12_richest) (b := 0) (rest := [.int v4]) (X12_sumOf_ok G 0 c1 M) rfl (by decide) dX12_richest_25 lkm_X12_430 cal_X12_sumOf cM_0 rfl rfl (Nat.le_of_ble_eq_true rfl) rfl) (fun v5 => ?_)
    refine r_icmp_le (tgt := 33) dX12_richest_28 rfl (fun h6 => ?_) (fun h6 => ?_)
    · exact r_lk hY33 (And.intro rfl (And.intro rfl (And.intro rfl True.intro)))
    exact r_lk hX31 (And.intro rfl (And.intro rfl True.intro))
set_option maxRecDepth 100000 in
set_option maxHeartbeats 4000000 in
theorem X12_richest_ok (G : Gh) (M : Mem) : Mt G mi_X12_richest [.ref (G.2.2.2 (0))] M ((dO (dI M)) (X12_richest M)) := by
  refine Mt_of (lv := [some (.ref (G.2.2.2 (0)))]) (by decide) rfl (Nat.le_of_ble_eq_true rfl) rfl ?_
  refine r_le (lv' := [some (.ref (G.2.2.2 (0))), none, none]) (And.intro rfl True.intro) ?_
  unfold X12_richest
  refine r_iconst (x := (-1)) dX12_richest_0 rfl ?_
  refine r_istore_n (lv' := [some (.ref (G.2.2.2 (0))), some (.int ((-1))), none]) dX12_richest_1 (Nat.le_of_ble_eq_true rfl) rfl rfl ?_
  refine r_iconst (x := 0) dX12_richest_2 rfl ?_
  refine r_istore_n (lv' := [some (.ref (G.2.2.2 (0))), some (.int ((-1))), some (.int 0)]) dX12_richest_3 (Nat.le_of_ble_eq_true rfl) rfl rfl ?_
  refine r_jB1 (j := 39) (lvj := fun e10 => [none, some (.int e10), none]) (stj := fun e10 => []) (Mj := fun e10 => M) (fun e10 => ?_) (fun hj39 => ?_)
  · refine r_iload_n dX12_richest_39 rfl ?_
    exact r_iret (ty := .int) dX12_richest_40 rfl rfl rfl
  exact r_lk (X12_richest_L1_ok G M rfl hj39 zFU (-1) 0) (And.intro rfl (And.intro rfl (And.intro rfl True.intro)))

theorem dX12_gulf_0 : decode cX12_gulf 0 = .ok (.aload_n 0, 1) := by decide +kernel
theorem dX12_gulf_1 : decode cX12_gulf 1 = .ok (.invokevirtual 398, 3) := by decide +kernel
theorem dX12_gulf_4 : decode cX12_gulf 4 = .ok (.ifCond .ne 5, 3) := by decide +kernel
theorem dX12_gulf_7 : decode cX12_gulf 7 = .ok (.iconst (-1), 1) := by decide +kernel
theorem dX12_gulf_8 : decode cX12_gulf 8 = .ok (.ireturn, 1) := by decide +kernel
theorem dX12_gulf_9 : decode cX12_gulf 9 = .ok (.aload_n 0, 1) := by decide +kernel
theorem dX12_gulf_10 : decode cX12_gulf 10 = .ok (.iconst 0, 1) := by decide +kernel
theorem dX12_gulf_11 : decode cX12_gulf 11 = .ok (.iconst 0, 1) := by decide +kernel
theorem dX12_gulf_12 : decode cX12_gulf 12 = .ok (.invokevirtual 430, 3) := by decide +kernel
theorem dX12_gulf_15 : decode cX12_gulf 15 = .ok (.istore_n 1, 1) := by decide +kernel
theorem dX12_gulf_16 : decode cX12_gulf 16 = .ok (.iconst 0, 1) := by decide +kernel
theorem dX12_gulf_17 : decode cX12_gulf 17 = .ok (.istore_n 2, 1) := by decide +kernel
theorem dX12_gulf_18 : decode cX12_gulf 18 = .ok (.iload_n 2, 1) := by decide +kernel
theorem dX12_gulf_19 : decode cX12_gulf 19 = .ok (.aload_n 0, 1) := by decide +kernel
theorem dX12_gulf_20 : decode cX12_gulf 20 = .ok (.invokevirtual 398, 3) := by decide +kernel
theorem dX12_gulf_23 : decode cX12_gulf 23 = .ok (.if_icmp .ge 20, 3) := by decide +kernel
theorem dX12_gulf_26 : decode cX12_gulf 26 = .ok (.iload_n 1, 1) := by decide +kernel
theorem dX12_gulf_27 : decode cX12_gulf 27 = .ok (.aload_n 0, 1) := by decide +kernel
theorem dX12_gulf_28 : decode cX12_gulf 28 = .ok (.iconst 0, 1) := by decide +kernel
theorem dX12_gulf_29 : decode cX12_gulf 29 = .ok (.iload_n 2, 1) := by decide +kernel
theorem dX12_gulf_30 : decode cX12_gulf 30 = .ok (.invokevirtual 430, 3) := by decide +kernel
theorem dX12_gulf_33 : decode cX12_gulf 33 = .ok (.invokestatic 452, 3) := by decide +kernel
theorem dX12_gulf_36 : decode cX12_gulf 36 = .ok (.istore_n 1, 1) := by decide +kernel
theorem dX12_gulf_37 : decode cX12_gulf 37 = .ok (.iinc 2 1, 3) := by decide +kernel
theorem dX12_gulf_40 : decode cX12_gulf 40 = .ok (.goto (-22), 3) := by decide +kernel
theorem dX12_gulf_43 : decode cX12_gulf 43 = .ok (.aload_n 0, 1) := by decide +kernel
theorem dX12_gulf_44 : decode cX12_gulf 44 = .ok (.iconst 0, 1) := by decide +kernel
theorem dX12_gulf_45 : decode cX12_gulf 45 = .ok (.aload_n 0, 1) := by decide +kernel
theorem dX12_gulf_46 : decode cX12_gulf 46 = .ok (.invokevirtual 534, 3) := by decide +kernel
theorem dX12_gulf_49 : decode cX12_gulf 49 = .ok (.invokevirtual 430, 3) := by decide +kernel
theorem dX12_gulf_52 : decode cX12_gulf 52 = .ok (.iload_n 1, 1) := by decide +kernel
theorem dX12_gulf_53 : decode cX12_gulf 53 = .ok (.isub, 1) := by decide +kernel
theorem dX12_gulf_54 : decode cX12_gulf 54 = .ok (.ireturn, 1) := by decide +kernel
abbrev mi_X12_gulf : MI := (zTM, RX12, yX12_gulf, cX12_gulf, 3, (some .int), 4)
theorem cal_X12_gulf : zCalV mi_X12_gulf 0 := ⟨⟨zTB_i9 43 (by decide +kernel), zTB_i9 41 (by decide +kernel), zTB_i9 42 (by decide +kernel), zTB_i1 13 (by decide +kernel)⟩, ⟨by decide, by decide, by decide +kernel⟩, by decide⟩
noncomputable def X12_gulf_L1 (M : Mem) : Nat → Int32 → Int32 → Option (Int32)
  | 0, _, _ => none
  | n + 1, c1, c2 =>
    bo_ (X12_many M) fun v4 =>
    if v4 ≤ c2 then
      some c1
    else
    bo_ (X12_sumOf 0 c2 M) fun v6 =>
    X12_gulf_L1 M n (X12_lesser c1 v6) (c2 + 1)
noncomputable def X12_gulf (M : Mem) : Option (Int32) :=
  bo_ (X12_many M) fun v1 =>
  if v1 = 0 then
    some (-1)
  else
  bo_ (X12_sumOf 0 0 M) fun v3 =>
  b1_ (α := Int32) (X12_gulf_L1 M zFU v3 0) fun e7 =>
  bo_ (X12_richest M) fun v8 =>
  bo_ (X12_sumOf 0 v8 M) fun v9 =>
  some (v9 - e7)
set_option maxRecDepth 100000 in
set_option maxHeartbeats 4000000 in
theorem X12_gulf_L1_ok (G : Gh) (M : Mem) {dn : Option (Int32) → Option (Option Value × Mem)} (hs : dn none = none) (hx : ∀ (e7 : Int32), Wr G mi_X12_gulf dn 43 [some (.ref (G.2.2.2 (0))), some (.int e7), none] [] M (some e7)) : ∀ (n : Nat) (c1 : Int32) (c2 : Int32), Wr G mi_X12_gulf dn 18 [some (.ref (G.2.2.2 (0))), some (.int c1), some (.int c2)] [] M (X12_gulf_L1 M n c1 c2) := by
  intro n
  induction n with
  | zero => intro c1 c2; exact r_none (by exact hs)
  | succ n ih =>
    intro c1 c2
    rw [X12_gulf_L1]
    refine r_iload_n dX12_gulf_18 rfl ?_
    refine r_aload_n dX12_gulf_19 rfl ?_
    refine c_OI (by exact hs) (inv_V (mi := mi_X12_gulf) (b := 0) (rest := [.int c2]) (X12_many_ok G M) rfl (by decide) dX12_gulf_20 lkm_X12_398 cal_X12_many cM_0 rfl rfl (Nat.le_of_ble_eq_true rfl) rfl) (fun v4 => ?_)
    refine r_icmp_ge (tgt := 43) dX12_gulf_23 rfl (fun h5 => ?_) (fun h5 => ?_)
    · exact r_lk (hx c1) (And.intro rfl (And.intro rfl True.intro))
    refine r_iload_n dX12_gulf_26 rfl ?_
    refine r_aload_n dX12_gulf_27 rfl ?_
    refine r_iconst (x := 0) dX12_gulf_28 rfl ?_
    refine r_iload_n dX12_gulf_29 rfl ?_
    refine c_OI (by exact hs) (inv_V (mi := mi_X12_gulf) (b := 0) (rest := [.int c1]) (X12_sumOf_ok G 0 c2 M) rfl (by decide) dX12_gulf_30 lkm_X12_430 cal_X12_sumOf cM_0 rfl rfl (Nat.le_of_ble_eq_true rfl) rfl) (fun v6 => ?_)
    refine c_I (inv_S (mi := mi_X12_gulf) (rest := []) (X12_lesser_ok G c1 v6 M) rfl (by decide) dX12_gulf_33 lkm_X12_452 cal_X12_lesser rfl (Nat.le_of_ble_eq_true rfl) rfl) ?_
    refine r_istore_n (lv' := [some (.ref (G.2.2.2 (0))), some (.int ((X12_lesser c1 v6))), some (.int c2)]) dX12_gulf_36 (Nat.le_of_ble_eq_true rfl) rfl rfl ?_
    refine r_iinc (y := c2 + 1) (lv' := [some (.ref (G.2.2.2 (0))), some (.int ((X12_lesser c1 v6))), some (.int (c2 + 1))]) dX12_gulf_37 rfl rfl (Nat.le_of_ble_eq_true rfl) rfl rfl ?_
    refine r_goto (tgt := 18) dX12_gulf_40 rfl ?_
    exact r_lk (ih (X12_lesser c1 v6) (c2 + 1)) (And.intro rfl (And.intro rfl (And.intro rfl True.intro)))
set_option maxRecDepth 100000 in
set_option maxHeartbeats 4000000 in
theorem X12_gulf_ok (G : Gh) (M : Mem) : Mt G mi_X12_gulf [.ref (G.2.2.2 (0))] M ((dO (dI M)) (X12_gulf M)) := by
  refine Mt_of (lv := [some (.ref (G.2.2.2 (0)))]) (by decide) rfl (Nat.le_of_ble_eq_true rfl) rfl ?_
  refine r_le (lv' := [some (.ref (G.2.2.2 (0))), none, none]) (And.intro rfl True.intro) ?_
  unfold X12_gulf
  refine r_aload_n dX12_gulf_0 rfl ?_
  refine c_OI rfl (inv_V (mi := mi_X12_gulf) (b := 0) (rest := []) (X12_many_ok G M) rfl (by decide) dX12_gulf_1 lkm_X12_398 cal_X12_many cM_0 rfl rfl (Nat.le_of_ble_eq_true rfl) rfl) (fun v1 => ?_)
  refine r_if_ne (tgt := 9) dX12_gulf_4 rfl (fun h2 => ?_) (fun h2 => ?_)
  · refine r_iconst (x := (-1)) dX12_gulf_7 rfl ?_
    exact r_iret (ty := .int) dX12_gulf_8 rfl rfl rfl
  refine r_aload_n dX12_gulf_9 rfl ?_
  refine r_iconst (x := 0) dX12_gulf_10 rfl ?_
  refine r_iconst (x := 0) dX12_gulf_11 rfl ?_
  refine c_OI rfl (inv_V (mi := mi_X12_gulf) (b := 0) (rest := []) (X12_sumOf_ok G 0 0 M) rfl (by decide) dX12_gulf_12 lkm_X12_430 cal_X12_sumOf cM_0 rfl rfl (Nat.le_of_ble_eq_true rfl) rfl) (fun v3 => ?_)
  refine r_istore_n (lv' := [some (.ref (G.2.2.2 (0))), some (.int v3), none]) dX12_gulf_15 (Nat.le_of_ble_eq_true rfl) rfl rfl ?_
  refine r_iconst (x := 0) dX12_gulf_16 rfl ?_
  refine r_istore_n (lv' := [some (.ref (G.2.2.2 (0))), some (.int v3), some (.int 0)]) dX12_gulf_17 (Nat.le_of_ble_eq_true rfl) rfl rfl ?_
  refine r_jB1 (j := 43) (lvj := fun e7 => [some (.ref (G.2.2.2 (0))), some (.int e7), none]) (stj := fun e7 => []) (Mj := fun e7 => M) (fun e7 => ?_) (fun hj43 => ?_)
  · refine r_aload_n dX12_gulf_43 rfl ?_
    refine r_iconst (x := 0) dX12_gulf_44 rfl ?_
    refine r_aload_n dX12_gulf_45 rfl ?_
    refine c_OI rfl (inv_V (mi := mi_X12_gulf) (b := 0) (rest := [.int 0, .ref (G.2.2.2 (0))]) (X12_richest_ok G M) rfl (by decide) dX12_gulf_46 lkm_X12_534 cal_X12_richest cM_0 rfl rfl (Nat.le_of_ble_eq_true rfl) rfl) (fun v8 => ?_)
    refine c_OI rfl (inv_V (mi := mi_X12_gulf) (b := 0) (rest := []) (X12_sumOf_ok G 0 v8 M) rfl (by decide) dX12_gulf_49 lkm_X12_430 cal_X12_sumOf cM_0 rfl rfl (Nat.le_of_ble_eq_true rfl) rfl) (fun v9 => ?_)
    refine r_iload_n dX12_gulf_52 rfl ?_
    refine r_isub dX12_gulf_53 ?_
    exact r_iret (ty := .int) dX12_gulf_54 rfl rfl rfl
  exact r_lk (X12_gulf_L1_ok G M rfl hj43 zFU v3 0) (And.intro rfl (And.intro rfl (And.intro rfl True.intro)))

theorem dX12_most_0 : decode cX12_most 0 = .ok (.aload_n 0, 1) := by decide +kernel
theorem dX12_most_1 : decode cX12_most 1 = .ok (.iload_n 1, 1) := by decide +kernel
theorem dX12_most_2 : decode cX12_most 2 = .ok (.invokevirtual 426, 3) := by decide +kernel
theorem dX12_most_5 : decode cX12_most 5 = .ok (.ifCond .eq 15, 3) := by decide +kernel
theorem dX12_most_8 : decode cX12_most 8 = .ok (.aload_n 0, 1) := by decide +kernel
theorem dX12_most_9 : decode cX12_most 9 = .ok (.getfield 20, 3) := by decide +kernel
theorem dX12_most_12 : decode cX12_most 12 = .ok (.aload_n 0, 1) := by decide +kernel
theorem dX12_most_13 : decode cX12_most 13 = .ok (.getfield 301, 3) := by decide +kernel
theorem dX12_most_16 : decode cX12_most 16 = .ok (.iaload, 1) := by decide +kernel
theorem dX12_most_17 : decode cX12_most 17 = .ok (.ifCond .ne 5, 3) := by decide +kernel
theorem dX12_most_20 : decode cX12_most 20 = .ok (.iconst (-1), 1) := by decide +kernel
theorem dX12_most_21 : decode cX12_most 21 = .ok (.ireturn, 1) := by decide +kernel
theorem dX12_most_22 : decode cX12_most 22 = .ok (.iconst 0, 1) := by decide +kernel
theorem dX12_most_23 : decode cX12_most 23 = .ok (.istore_n 2, 1) := by decide +kernel
theorem dX12_most_24 : decode cX12_most 24 = .ok (.iconst 1, 1) := by decide +kernel
theorem dX12_most_25 : decode cX12_most 25 = .ok (.istore_n 3, 1) := by decide +kernel
theorem dX12_most_26 : decode cX12_most 26 = .ok (.iload_n 3, 1) := by decide +kernel
theorem dX12_most_27 : decode cX12_most 27 = .ok (.aload_n 0, 1) := by decide +kernel
theorem dX12_most_28 : decode cX12_most 28 = .ok (.getfield 20, 3) := by decide +kernel
theorem dX12_most_31 : decode cX12_most 31 = .ok (.aload_n 0, 1) := by decide +kernel
theorem dX12_most_32 : decode cX12_most 32 = .ok (.getfield 301, 3) := by decide +kernel
theorem dX12_most_35 : decode cX12_most 35 = .ok (.iaload, 1) := by decide +kernel
theorem dX12_most_36 : decode cX12_most 36 = .ok (.if_icmp .ge 26, 3) := by decide +kernel
theorem dX12_most_39 : decode cX12_most 39 = .ok (.aload_n 0, 1) := by decide +kernel
theorem dX12_most_40 : decode cX12_most 40 = .ok (.iload_n 1, 1) := by decide +kernel
theorem dX12_most_41 : decode cX12_most 41 = .ok (.iload_n 3, 1) := by decide +kernel
theorem dX12_most_42 : decode cX12_most 42 = .ok (.invokevirtual 439, 3) := by decide +kernel
theorem dX12_most_45 : decode cX12_most 45 = .ok (.aload_n 0, 1) := by decide +kernel
theorem dX12_most_46 : decode cX12_most 46 = .ok (.iload_n 1, 1) := by decide +kernel
theorem dX12_most_47 : decode cX12_most 47 = .ok (.iload_n 2, 1) := by decide +kernel
theorem dX12_most_48 : decode cX12_most 48 = .ok (.invokevirtual 439, 3) := by decide +kernel
theorem dX12_most_51 : decode cX12_most 51 = .ok (.if_icmp .le 5, 3) := by decide +kernel
theorem dX12_most_54 : decode cX12_most 54 = .ok (.iload_n 3, 1) := by decide +kernel
theorem dX12_most_55 : decode cX12_most 55 = .ok (.istore_n 2, 1) := by decide +kernel
theorem dX12_most_56 : decode cX12_most 56 = .ok (.iinc 3 1, 3) := by decide +kernel
theorem dX12_most_59 : decode cX12_most 59 = .ok (.goto (-33), 3) := by decide +kernel
theorem dX12_most_62 : decode cX12_most 62 = .ok (.iload_n 2, 1) := by decide +kernel
theorem dX12_most_63 : decode cX12_most 63 = .ok (.ireturn, 1) := by decide +kernel
abbrev mi_X12_most : MI := (zTM, RX12, yX12_most, cX12_most, 4, (some .int), 4)
theorem cal_X12_most : zCalV mi_X12_most 1 := ⟨⟨zTB_i9 48 (by decide +kernel), zTB_i9 46 (by decide +kernel), zTB_i9 47 (by decide +kernel), zTB_i1 13 (by decide +kernel)⟩, ⟨by decide, by decide, by decide +kernel⟩, by decide⟩
noncomputable def X12_most_L1 (x1 : Int32) (M : Mem) : Nat → Int32 → Int32 → Option (Int32)
  | 0, _, _ => none
  | n + 1, c2, c3 =>
    gd_ (inb (M.1 0 41) (2) = true) (
    if (M.1 3 ((M.1 0 41).toNatClampNeg)) ≤ c3 then
      some c2
    else
    bo_ (X12_inPurse x1 c3 M) fun v7 =>
    bo_ (X12_inPurse x1 c2 M) fun v8 =>
    l1_ (α := Int32) (
      if v7 ≤ v8 then
        c2
      else
      c3) fun y10 =>
    X12_most_L1 x1 M n y10 (c3 + 1))
noncomputable def X12_most (x1 : Int32) (M : Mem) : Option (Int32) :=
  bo_ (X12_isMan x1 M) fun b1 =>
  if b1 = true then
    gd_ (inb (M.1 0 41) (2) = true) (
    if (M.1 3 ((M.1 0 41).toNatClampNeg)) = 0 then
      some (-1)
    else
    b1_ (α := Int32) (X12_most_L1 x1 M zFU 0 1) fun e11 =>
    some e11)
  else
  some (-1)
set_option maxRecDepth 100000 in
set_option maxHeartbeats 4000000 in
theorem X12_most_L1_ok (G : Gh) (x1 : Int32) (M : Mem) {dn : Option (Int32) → Option (Option Value × Mem)} (hs : dn none = none) (hx : ∀ (e11 : Int32), Wr G mi_X12_most dn 62 [none, none, some (.int e11), none] [] M (some e11)) : ∀ (n : Nat) (c2 : Int32) (c3 : Int32), Wr G mi_X12_most dn 26 [some (.ref (G.2.2.2 (0))), some (.int x1), some (.int c2), some (.int c3)] [] M (X12_most_L1 x1 M n c2 c3) := by
  intro n
  induction n with
  | zero => intro c2 c3; exact r_none (by exact hs)
  | succ n ih =>
    intro c2 c3
    rw [X12_most_L1]
    refine r_iload_n dX12_most_26 rfl ?_
    refine r_aload_n dX12_most_27 rfl ?_
    refine r_getf (v := .ref (G.2.2.2 (3))) dX12_most_28 fM_0_11 kX12 (by decide) lkf_X12_20 rfl ?_
    refine r_aload_n dX12_most_31 rfl ?_
    refine r_getf (v := .int (M.1 0 41)) dX12_most_32 fM_0_41 kX12 (by decide) lkf_X12_301 rfl ?_
    refine r_gd (by exact hs) (fun g5 => ?_)
    refine r_iald dX12_most_35 aM_3 (inb_in g5) rfl ?_
    refine r_icmp_ge (tgt := 62) dX12_most_36 rfl (fun h6 => ?_) (fun h6 => ?_)
    · exact r_lk (hx c2) (And.intro rfl True.intro)
    refine r_aload_n dX12_most_39 rfl ?_
    refine r_iload_n dX12_most_40 rfl ?_
    refine r_iload_n dX12_most_41 rfl ?_
    refine c_OI (by exact hs) (inv_V (mi := mi_X12_most) (b := 0) (rest := []) (X12_inPurse_ok G x1 c3 M) rfl (by decide) dX12_most_42 lkm_X12_439 cal_X12_inPurse cM_0 rfl rfl (Nat.le_of_ble_eq_true rfl) rfl) (fun v7 => ?_)
    refine r_aload_n dX12_most_45 rfl ?_
    refine r_iload_n dX12_most_46 rfl ?_
    refine r_iload_n dX12_most_47 rfl ?_
    refine c_OI (by exact hs) (inv_V (mi := mi_X12_most) (b := 0) (rest := [.int v7]) (X12_inPurse_ok G x1 c2 M) rfl (by decide) dX12_most_48 lkm_X12_439 cal_X12_inPurse cM_0 rfl rfl (Nat.le_of_ble_eq_true rfl) rfl) (fun v8 => ?_)
    refine r_jL1 (j := 56) (lvj := fun y10 => [some (.ref (G.2.2.2 (0))), some (.int x1), some (.int y10), some (.int c3)]) (stj := fun y10 => []) (Mj := fun y10 => M) (fun y10 => ?_) (fun hj56 => ?_)
    · refine r_iinc (y := c3 + 1) (lv' := [some (.ref (G.2.2.2 (0))), some (.int x1), some (.int y10), some (.int (c3 + 1))]) dX12_most_56 rfl rfl (Nat.le_of_ble_eq_true rfl) rfl rfl ?_
      refine r_goto (tgt := 26) dX12_most_59 rfl ?_
      exact r_lk (ih y10 (c3 + 1)) (And.intro rfl (And.intro rfl (And.intro rfl (And.intro rfl True.intro))))
    refine r_icmp_le (tgt := 56) dX12_most_51 rfl (fun h9 => ?_) (fun h9 => ?_)
    · exact r_lk (hj56 c2) (And.intro rfl (And.intro rfl (And.intro rfl (And.intro rfl True.intro))))
    refine r_iload_n dX12_most_54 rfl ?_
    refine r_istore_n (lv' := [some (.ref (G.2.2.2 (0))), some (.int x1), some (.int c3), some (.int c3)]) dX12_most_55 (Nat.le_of_ble_eq_true rfl) rfl rfl ?_
    exact r_lk (hj56 c3) (And.intro rfl (And.intro rfl (And.intro rfl (And.intro rfl True.intro))))
set_option maxRecDepth 100000 in
set_option maxHeartbeats 4000000 in
theorem X12_most_ok (G : Gh) (x1 : Int32) (M : Mem) : Mt G mi_X12_most [.ref (G.2.2.2 (0)), .int x1] M ((dO (dI M)) (X12_most x1 M)) := by
  refine Mt_of (lv := [some (.ref (G.2.2.2 (0))), some (.int x1)]) (by decide) rfl (Nat.le_of_ble_eq_true rfl) rfl ?_
  refine r_le (lv' := [some (.ref (G.2.2.2 (0))), some (.int x1), none, none]) (And.intro rfl (And.intro rfl True.intro)) ?_
  unfold X12_most
  refine r_aload_n dX12_most_0 rfl ?_
  refine r_iload_n dX12_most_1 rfl ?_
  refine c_OZ rfl (inv_V (mi := mi_X12_most) (b := 0) (rest := []) (X12_isMan_ok G x1 M) rfl (by decide) dX12_most_2 lkm_X12_426 cal_X12_isMan cM_0 rfl rfl (Nat.le_of_ble_eq_true rfl) rfl) (fun b1 => ?_)
  refine r_ifz_eq (tgt := 20) dX12_most_5 rfl (fun h2 => ?_) (fun h2 => ?_)
  · refine r_aload_n dX12_most_8 rfl ?_
    refine r_getf (v := .ref (G.2.2.2 (3))) dX12_most_9 fM_0_11 kX12 (by decide) lkf_X12_20 rfl ?_
    refine r_aload_n dX12_most_12 rfl ?_
    refine r_getf (v := .int (M.1 0 41)) dX12_most_13 fM_0_41 kX12 (by decide) lkf_X12_301 rfl ?_
    refine r_gd rfl (fun g3 => ?_)
    refine r_iald dX12_most_16 aM_3 (inb_in g3) rfl ?_
    refine r_if_ne (tgt := 22) dX12_most_17 rfl (fun h4 => ?_) (fun h4 => ?_)
    · refine r_iconst (x := (-1)) dX12_most_20 rfl ?_
      exact r_iret (ty := .int) dX12_most_21 rfl rfl rfl
    refine r_iconst (x := 0) dX12_most_22 rfl ?_
    refine r_istore_n (lv' := [some (.ref (G.2.2.2 (0))), some (.int x1), some (.int 0), none]) dX12_most_23 (Nat.le_of_ble_eq_true rfl) rfl rfl ?_
    refine r_iconst (x := 1) dX12_most_24 rfl ?_
    refine r_istore_n (lv' := [some (.ref (G.2.2.2 (0))), some (.int x1), some (.int 0), some (.int 1)]) dX12_most_25 (Nat.le_of_ble_eq_true rfl) rfl rfl ?_
    refine r_jB1 (j := 62) (lvj := fun e11 => [none, none, some (.int e11), none]) (stj := fun e11 => []) (Mj := fun e11 => M) (fun e11 => ?_) (fun hj62 => ?_)
    · refine r_iload_n dX12_most_62 rfl ?_
      exact r_iret (ty := .int) dX12_most_63 rfl rfl rfl
    exact r_lk (X12_most_L1_ok G x1 M rfl hj62 zFU 0 1) (And.intro rfl (And.intro rfl (And.intro rfl (And.intro rfl True.intro))))
  refine r_iconst (x := (-1)) dX12_most_20 rfl ?_
  exact r_iret (ty := .int) dX12_most_21 rfl rfl rfl

theorem dX12_tryRound_0 : decode cX12_tryRound 0 = .ok (.bipush 9, 2) := by decide +kernel
theorem dX12_tryRound_2 : decode cX12_tryRound 2 = .ok (.aload_n 0, 1) := by decide +kernel
theorem dX12_tryRound_3 : decode cX12_tryRound 3 = .ok (.getfield 301, 3) := by decide +kernel
theorem dX12_tryRound_6 : decode cX12_tryRound 6 = .ok (.imul, 1) := by decide +kernel
theorem dX12_tryRound_7 : decode cX12_tryRound 7 = .ok (.iconst 3, 1) := by decide +kernel
theorem dX12_tryRound_8 : decode cX12_tryRound 8 = .ok (.iload_n 1, 1) := by decide +kernel
theorem dX12_tryRound_9 : decode cX12_tryRound 9 = .ok (.imul, 1) := by decide +kernel
theorem dX12_tryRound_10 : decode cX12_tryRound 10 = .ok (.iadd, 1) := by decide +kernel
theorem dX12_tryRound_11 : decode cX12_tryRound 11 = .ok (.iload_n 2, 1) := by decide +kernel
theorem dX12_tryRound_12 : decode cX12_tryRound 12 = .ok (.iadd, 1) := by decide +kernel
theorem dX12_tryRound_13 : decode cX12_tryRound 13 = .ok (.istore 4, 2) := by decide +kernel
theorem dX12_tryRound_15 : decode cX12_tryRound 15 = .ok (.bipush 9, 2) := by decide +kernel
theorem dX12_tryRound_17 : decode cX12_tryRound 17 = .ok (.aload_n 0, 1) := by decide +kernel
theorem dX12_tryRound_18 : decode cX12_tryRound 18 = .ok (.getfield 301, 3) := by decide +kernel
theorem dX12_tryRound_21 : decode cX12_tryRound 21 = .ok (.imul, 1) := by decide +kernel
theorem dX12_tryRound_22 : decode cX12_tryRound 22 = .ok (.iconst 3, 1) := by decide +kernel
theorem dX12_tryRound_23 : decode cX12_tryRound 23 = .ok (.iload_n 2, 1) := by decide +kernel
theorem dX12_tryRound_24 : decode cX12_tryRound 24 = .ok (.imul, 1) := by decide +kernel
theorem dX12_tryRound_25 : decode cX12_tryRound 25 = .ok (.iadd, 1) := by decide +kernel
theorem dX12_tryRound_26 : decode cX12_tryRound 26 = .ok (.iload_n 3, 1) := by decide +kernel
theorem dX12_tryRound_27 : decode cX12_tryRound 27 = .ok (.ifCond .ge 7, 3) := by decide +kernel
theorem dX12_tryRound_30 : decode cX12_tryRound 30 = .ok (.iload_n 1, 1) := by decide +kernel
theorem dX12_tryRound_31 : decode cX12_tryRound 31 = .ok (.goto 4, 3) := by decide +kernel
theorem dX12_tryRound_34 : decode cX12_tryRound 34 = .ok (.iload_n 3, 1) := by decide +kernel
theorem dX12_tryRound_35 : decode cX12_tryRound 35 = .ok (.iadd, 1) := by decide +kernel
theorem dX12_tryRound_36 : decode cX12_tryRound 36 = .ok (.istore 5, 2) := by decide +kernel
theorem dX12_tryRound_38 : decode cX12_tryRound 38 = .ok (.iload_n 3, 1) := by decide +kernel
theorem dX12_tryRound_39 : decode cX12_tryRound 39 = .ok (.ifCond .ge 7, 3) := by decide +kernel
theorem dX12_tryRound_42 : decode cX12_tryRound 42 = .ok (.iconst (-1), 1) := by decide +kernel
theorem dX12_tryRound_43 : decode cX12_tryRound 43 = .ok (.goto 16, 3) := by decide +kernel
theorem dX12_tryRound_46 : decode cX12_tryRound 46 = .ok (.bipush 9, 2) := by decide +kernel
theorem dX12_tryRound_48 : decode cX12_tryRound 48 = .ok (.aload_n 0, 1) := by decide +kernel
theorem dX12_tryRound_49 : decode cX12_tryRound 49 = .ok (.getfield 301, 3) := by decide +kernel
theorem dX12_tryRound_52 : decode cX12_tryRound 52 = .ok (.imul, 1) := by decide +kernel
theorem dX12_tryRound_53 : decode cX12_tryRound 53 = .ok (.iconst 3, 1) := by decide +kernel
theorem dX12_tryRound_54 : decode cX12_tryRound 54 = .ok (.iload_n 3, 1) := by decide +kernel
theorem dX12_tryRound_55 : decode cX12_tryRound 55 = .ok (.imul, 1) := by decide +kernel
theorem dX12_tryRound_56 : decode cX12_tryRound 56 = .ok (.iadd, 1) := by decide +kernel
theorem dX12_tryRound_57 : decode cX12_tryRound 57 = .ok (.iload_n 1, 1) := by decide +kernel
theorem dX12_tryRound_58 : decode cX12_tryRound 58 = .ok (.iadd, 1) := by decide +kernel
theorem dX12_tryRound_59 : decode cX12_tryRound 59 = .ok (.istore 6, 2) := by decide +kernel
theorem dX12_tryRound_61 : decode cX12_tryRound 61 = .ok (.aload_n 0, 1) := by decide +kernel
theorem dX12_tryRound_62 : decode cX12_tryRound 62 = .ok (.getfield 66, 3) := by decide +kernel
theorem dX12_tryRound_65 : decode cX12_tryRound 65 = .ok (.iload 4, 2) := by decide +kernel
theorem dX12_tryRound_67 : decode cX12_tryRound 67 = .ok (.iaload, 1) := by decide +kernel
theorem dX12_tryRound_68 : decode cX12_tryRound 68 = .ok (.ifCond .eq 28, 3) := by decide +kernel
theorem dX12_tryRound_71 : decode cX12_tryRound 71 = .ok (.aload_n 0, 1) := by decide +kernel
theorem dX12_tryRound_72 : decode cX12_tryRound 72 = .ok (.getfield 66, 3) := by decide +kernel
theorem dX12_tryRound_75 : decode cX12_tryRound 75 = .ok (.iload 5, 2) := by decide +kernel
theorem dX12_tryRound_77 : decode cX12_tryRound 77 = .ok (.iaload, 1) := by decide +kernel
theorem dX12_tryRound_78 : decode cX12_tryRound 78 = .ok (.ifCond .eq 18, 3) := by decide +kernel
theorem dX12_tryRound_81 : decode cX12_tryRound 81 = .ok (.iload 6, 2) := by decide +kernel
theorem dX12_tryRound_83 : decode cX12_tryRound 83 = .ok (.ifCond .lt 14, 3) := by decide +kernel
theorem dX12_tryRound_86 : decode cX12_tryRound 86 = .ok (.aload_n 0, 1) := by decide +kernel
theorem dX12_tryRound_87 : decode cX12_tryRound 87 = .ok (.getfield 66, 3) := by decide +kernel
theorem dX12_tryRound_90 : decode cX12_tryRound 90 = .ok (.iload 6, 2) := by decide +kernel
theorem dX12_tryRound_92 : decode cX12_tryRound 92 = .ok (.iaload, 1) := by decide +kernel
theorem dX12_tryRound_93 : decode cX12_tryRound 93 = .ok (.ifCond .ne 4, 3) := by decide +kernel
theorem dX12_tryRound_96 : decode cX12_tryRound 96 = .ok (.return_, 1) := by decide +kernel
theorem dX12_tryRound_97 : decode cX12_tryRound 97 = .ok (.aload_n 0, 1) := by decide +kernel
theorem dX12_tryRound_98 : decode cX12_tryRound 98 = .ok (.getfield 69, 3) := by decide +kernel
theorem dX12_tryRound_101 : decode cX12_tryRound 101 = .ok (.iload 4, 2) := by decide +kernel
theorem dX12_tryRound_103 : decode cX12_tryRound 103 = .ok (.iaload, 1) := by decide +kernel
theorem dX12_tryRound_104 : decode cX12_tryRound 104 = .ok (.aload_n 0, 1) := by decide +kernel
theorem dX12_tryRound_105 : decode cX12_tryRound 105 = .ok (.getfield 69, 3) := by decide +kernel
theorem dX12_tryRound_108 : decode cX12_tryRound 108 = .ok (.iload 5, 2) := by decide +kernel
theorem dX12_tryRound_110 : decode cX12_tryRound 110 = .ok (.iaload, 1) := by decide +kernel
theorem dX12_tryRound_111 : decode cX12_tryRound 111 = .ok (.imul, 1) := by decide +kernel
theorem dX12_tryRound_112 : decode cX12_tryRound 112 = .ok (.iload 6, 2) := by decide +kernel
theorem dX12_tryRound_114 : decode cX12_tryRound 114 = .ok (.ifCond .ge 7, 3) := by decide +kernel
theorem dX12_tryRound_117 : decode cX12_tryRound 117 = .ok (.iconst 1, 1) := by decide +kernel
theorem dX12_tryRound_118 : decode cX12_tryRound 118 = .ok (.goto 10, 3) := by decide +kernel
theorem dX12_tryRound_121 : decode cX12_tryRound 121 = .ok (.aload_n 0, 1) := by decide +kernel
theorem dX12_tryRound_122 : decode cX12_tryRound 122 = .ok (.getfield 69, 3) := by decide +kernel
theorem dX12_tryRound_125 : decode cX12_tryRound 125 = .ok (.iload 6, 2) := by decide +kernel
theorem dX12_tryRound_127 : decode cX12_tryRound 127 = .ok (.iaload, 1) := by decide +kernel
theorem dX12_tryRound_128 : decode cX12_tryRound 128 = .ok (.imul, 1) := by decide +kernel
theorem dX12_tryRound_129 : decode cX12_tryRound 129 = .ok (.istore 7, 2) := by decide +kernel
theorem dX12_tryRound_131 : decode cX12_tryRound 131 = .ok (.aload_n 0, 1) := by decide +kernel
theorem dX12_tryRound_132 : decode cX12_tryRound 132 = .ok (.getfield 66, 3) := by decide +kernel
theorem dX12_tryRound_135 : decode cX12_tryRound 135 = .ok (.iload 4, 2) := by decide +kernel
theorem dX12_tryRound_137 : decode cX12_tryRound 137 = .ok (.iaload, 1) := by decide +kernel
theorem dX12_tryRound_138 : decode cX12_tryRound 138 = .ok (.aload_n 0, 1) := by decide +kernel
theorem dX12_tryRound_139 : decode cX12_tryRound 139 = .ok (.getfield 66, 3) := by decide +kernel
theorem dX12_tryRound_142 : decode cX12_tryRound 142 = .ok (.iload 5, 2) := by decide +kernel
theorem dX12_tryRound_144 : decode cX12_tryRound 144 = .ok (.iaload, 1) := by decide +kernel
theorem dX12_tryRound_145 : decode cX12_tryRound 145 = .ok (.imul, 1) := by decide +kernel
theorem dX12_tryRound_146 : decode cX12_tryRound 146 = .ok (.iload 6, 2) := by decide +kernel
theorem dX12_tryRound_148 : decode cX12_tryRound 148 = .ok (.ifCond .ge 7, 3) := by decide +kernel
theorem dX12_tryRound_151 : decode cX12_tryRound 151 = .ok (.iconst 1, 1) := by decide +kernel
theorem dX12_tryRound_152 : decode cX12_tryRound 152 = .ok (.goto 10, 3) := by decide +kernel
theorem dX12_tryRound_155 : decode cX12_tryRound 155 = .ok (.aload_n 0, 1) := by decide +kernel
theorem dX12_tryRound_156 : decode cX12_tryRound 156 = .ok (.getfield 66, 3) := by decide +kernel
theorem dX12_tryRound_159 : decode cX12_tryRound 159 = .ok (.iload 6, 2) := by decide +kernel
theorem dX12_tryRound_161 : decode cX12_tryRound 161 = .ok (.iaload, 1) := by decide +kernel
theorem dX12_tryRound_162 : decode cX12_tryRound 162 = .ok (.imul, 1) := by decide +kernel
theorem dX12_tryRound_163 : decode cX12_tryRound 163 = .ok (.istore 8, 2) := by decide +kernel
theorem dX12_tryRound_165 : decode cX12_tryRound 165 = .ok (.aload_n 0, 1) := by decide +kernel
theorem dX12_tryRound_166 : decode cX12_tryRound 166 = .ok (.getfield 537, 3) := by decide +kernel
theorem dX12_tryRound_169 : decode cX12_tryRound 169 = .ok (.ifCond .le 21, 3) := by decide +kernel
theorem dX12_tryRound_172 : decode cX12_tryRound 172 = .ok (.iload 7, 2) := by decide +kernel
theorem dX12_tryRound_174 : decode cX12_tryRound 174 = .ok (.aload_n 0, 1) := by decide +kernel
theorem dX12_tryRound_175 : decode cX12_tryRound 175 = .ok (.getfield 537, 3) := by decide +kernel
theorem dX12_tryRound_178 : decode cX12_tryRound 178 = .ok (.imul, 1) := by decide +kernel
theorem dX12_tryRound_179 : decode cX12_tryRound 179 = .ok (.aload_n 0, 1) := by decide +kernel
theorem dX12_tryRound_180 : decode cX12_tryRound 180 = .ok (.getfield 540, 3) := by decide +kernel
theorem dX12_tryRound_183 : decode cX12_tryRound 183 = .ok (.iload 8, 2) := by decide +kernel
theorem dX12_tryRound_185 : decode cX12_tryRound 185 = .ok (.imul, 1) := by decide +kernel
theorem dX12_tryRound_186 : decode cX12_tryRound 186 = .ok (.if_icmp .gt 4, 3) := by decide +kernel
theorem dX12_tryRound_189 : decode cX12_tryRound 189 = .ok (.return_, 1) := by decide +kernel
theorem dX12_tryRound_190 : decode cX12_tryRound 190 = .ok (.aload_n 0, 1) := by decide +kernel
theorem dX12_tryRound_191 : decode cX12_tryRound 191 = .ok (.iload 7, 2) := by decide +kernel
theorem dX12_tryRound_193 : decode cX12_tryRound 193 = .ok (.putfield 540, 3) := by decide +kernel
theorem dX12_tryRound_196 : decode cX12_tryRound 196 = .ok (.aload_n 0, 1) := by decide +kernel
theorem dX12_tryRound_197 : decode cX12_tryRound 197 = .ok (.iload 8, 2) := by decide +kernel
theorem dX12_tryRound_199 : decode cX12_tryRound 199 = .ok (.putfield 537, 3) := by decide +kernel
theorem dX12_tryRound_202 : decode cX12_tryRound 202 = .ok (.aload_n 0, 1) := by decide +kernel
theorem dX12_tryRound_203 : decode cX12_tryRound 203 = .ok (.iload_n 3, 1) := by decide +kernel
theorem dX12_tryRound_204 : decode cX12_tryRound 204 = .ok (.ifCond .ge 12, 3) := by decide +kernel
theorem dX12_tryRound_207 : decode cX12_tryRound 207 = .ok (.bipush 10, 2) := by decide +kernel
theorem dX12_tryRound_209 : decode cX12_tryRound 209 = .ok (.iload_n 1, 1) := by decide +kernel
theorem dX12_tryRound_210 : decode cX12_tryRound 210 = .ok (.imul, 1) := by decide +kernel
theorem dX12_tryRound_211 : decode cX12_tryRound 211 = .ok (.iload_n 2, 1) := by decide +kernel
theorem dX12_tryRound_212 : decode cX12_tryRound 212 = .ok (.iadd, 1) := by decide +kernel
theorem dX12_tryRound_213 : decode cX12_tryRound 213 = .ok (.goto 14, 3) := by decide +kernel
theorem dX12_tryRound_216 : decode cX12_tryRound 216 = .ok (.bipush 100, 2) := by decide +kernel
theorem dX12_tryRound_218 : decode cX12_tryRound 218 = .ok (.iload_n 1, 1) := by decide +kernel
theorem dX12_tryRound_219 : decode cX12_tryRound 219 = .ok (.imul, 1) := by decide +kernel
theorem dX12_tryRound_220 : decode cX12_tryRound 220 = .ok (.bipush 10, 2) := by decide +kernel
theorem dX12_tryRound_222 : decode cX12_tryRound 222 = .ok (.iload_n 2, 1) := by decide +kernel
theorem dX12_tryRound_223 : decode cX12_tryRound 223 = .ok (.imul, 1) := by decide +kernel
theorem dX12_tryRound_224 : decode cX12_tryRound 224 = .ok (.iadd, 1) := by decide +kernel
theorem dX12_tryRound_225 : decode cX12_tryRound 225 = .ok (.iload_n 3, 1) := by decide +kernel
theorem dX12_tryRound_226 : decode cX12_tryRound 226 = .ok (.iadd, 1) := by decide +kernel
theorem dX12_tryRound_227 : decode cX12_tryRound 227 = .ok (.putfield 543, 3) := by decide +kernel
theorem dX12_tryRound_230 : decode cX12_tryRound 230 = .ok (.return_, 1) := by decide +kernel
abbrev mi_X12_tryRound : MI := (zTM, RX12, yX12_tryRound, cX12_tryRound, 9, none, 2)
theorem cal_X12_tryRound : zCalV mi_X12_tryRound 3 := ⟨⟨zTB_i9 56 (by decide +kernel), zTB_i9 55 (by decide +kernel), zTB_i0 111 (by decide +kernel), zTB_i1 13 (by decide +kernel)⟩, ⟨by decide, by decide, by decide +kernel⟩, by decide⟩
noncomputable def X12_tryRound (x1 : Int32) (x2 : Int32) (x3 : Int32) (M : Mem) : Option (Mem) :=
  lt_ (α := Int32) (((9 * (M.1 0 41)) + (3 * x1)) + x2) fun y1 =>
  l1_ (α := Int32) (
    if 0 ≤ x3 then
      x3
    else
    x1) fun y3 =>
  lt_ (α := Int32) (((9 * (M.1 0 41)) + (3 * x2)) + y3) fun y4 =>
  l1_ (α := Int32) (
    if 0 ≤ x3 then
      ((9 * (M.1 0 41)) + (3 * x3)) + x1
    else
    (-1)) fun y6 =>
  gd_ (inb y1 (18) = true) (
  b1_ (α := Bool) (
    if (M.1 18 y1.toNatClampNeg) = 0 then
      some true
    else
    gd_ (inb y4 (18) = true) (
    if (M.1 18 y4.toNatClampNeg) = 0 then
      some true
    else
    if y6 < 0 then
      some false
    else
    gd_ (inb y6 (18) = true) (
    if (M.1 18 y6.toNatClampNeg) = 0 then
      some true
    else
    some false))) fun t14 =>
  if t14 = true then
    some M
  else
  gd_ (inb y1 (18) = true) (
  gd_ (inb y4 (18) = true) (
  b1_ (α := Int32) (
    if 0 ≤ y6 then
      gd_ (inb y6 (18) = true) (
      some (M.1 19 y6.toNatClampNeg))
    else
    some 1) fun y20 =>
  lt_ (α := Int32) (((M.1 19 y1.toNatClampNeg) * (M.1 19 y4.toNatClampNeg)) * y20) fun y21 =>
  gd_ (inb y4 (18) = true) (
  b1_ (α := Int32) (
    if 0 ≤ y6 then
      gd_ (inb y6 (18) = true) (
      some (M.1 18 y6.toNatClampNeg))
    else
    some 1) fun y25 =>
  lt_ (α := Int32) (((M.1 18 y1.toNatClampNeg) * (M.1 18 y4.toNatClampNeg)) * y25) fun y26 =>
  l1_ (α := Bool) (
    if (M.1 0 68) ≤ 0 then
      true
    else
    if ((M.1 0 67) * y26) < (y21 * (M.1 0 68)) then
      true
    else
    false) fun t29 =>
  if t29 = true then
    lt_ (uI M 0 67 y21) fun M31 =>
    lt_ (uI M31 0 68 y26) fun M32 =>
    l1_ (α := Int32) (
      if 0 ≤ x3 then
        ((100 * x1) + (10 * x2)) + x3
      else
      (10 * x1) + x2) fun y34 =>
    lt_ (uI M32 0 69 y34) fun M35 =>
    some M35
  else
  some M))))
set_option maxRecDepth 100000 in
set_option maxHeartbeats 4000000 in
theorem X12_tryRound_ok (G : Gh) (x1 : Int32) (x2 : Int32) (x3 : Int32) (M : Mem) : Mt G mi_X12_tryRound [.ref (G.2.2.2 (0)), .int x1, .int x2, .int x3] M ((dO dV) (X12_tryRound x1 x2 x3 M)) := by
  refine Mt_of (lv := [some (.ref (G.2.2.2 (0))), some (.int x1), some (.int x2), some (.int x3)]) (by decide) rfl (Nat.le_of_ble_eq_true rfl) rfl ?_
  refine r_le (lv' := [some (.ref (G.2.2.2 (0))), some (.int x1), some (.int x2), some (.int x3), none, none, none, none, none]) (And.intro rfl (And.intro rfl (And.intro rfl (And.intro rfl True.intro)))) ?_
  unfold X12_tryRound
  refine r_bipush (x := 9) dX12_tryRound_0 rfl ?_
  refine r_aload_n dX12_tryRound_2 rfl ?_
  refine r_getf (v := .int (M.1 0 41)) dX12_tryRound_3 fM_0_41 kX12 (by decide) lkf_X12_301 rfl ?_
  refine r_imul dX12_tryRound_6 ?_
  refine r_iconst (x := 3) dX12_tryRound_7 rfl ?_
  refine r_iload_n dX12_tryRound_8 rfl ?_
  refine r_imul dX12_tryRound_9 ?_
  refine r_iadd dX12_tryRound_10 ?_
  refine r_iload_n dX12_tryRound_11 rfl ?_
  refine r_iadd dX12_tryRound_12 ?_
  refine r_letI (fun y1 => ?_)
  refine r_istore (lv' := [some (.ref (G.2.2.2 (0))), some (.int x1), some (.int x2), some (.int x3), some (.int y1), none, none, none, none]) dX12_tryRound_13 (Nat.le_of_ble_eq_true rfl) rfl rfl ?_
  refine r_bipush (x := 9) dX12_tryRound_15 rfl ?_
  refine r_aload_n dX12_tryRound_17 rfl ?_
  refine r_getf (v := .int (M.1 0 41)) dX12_tryRound_18 fM_0_41 kX12 (by decide) lkf_X12_301 rfl ?_
  refine r_imul dX12_tryRound_21 ?_
  refine r_iconst (x := 3) dX12_tryRound_22 rfl ?_
  refine r_iload_n dX12_tryRound_23 rfl ?_
  refine r_imul dX12_tryRound_24 ?_
  refine r_iadd dX12_tryRound_25 ?_
  refine r_iload_n dX12_tryRound_26 rfl ?_
  refine r_jL1 (j := 35) (lvj := fun y3 => [some (.ref (G.2.2.2 (0))), some (.int x1), some (.int x2), some (.int x3), some (.int y1), none, none, none, none]) (stj := fun y3 => [.int y3, .int ((9 * (M.1 0 41)) + (3 * x2))]) (Mj := fun y3 => M) (fun y3 => ?_) (fun hj35 => ?_)
  · refine r_iadd dX12_tryRound_35 ?_
    refine r_letI (fun y4 => ?_)
    refine r_istore (lv' := [some (.ref (G.2.2.2 (0))), some (.int x1), some (.int x2), some (.int x3), some (.int y1), some (.int y4), none, none, none]) dX12_tryRound_36 (Nat.le_of_ble_eq_true rfl) rfl rfl ?_
    refine r_iload_n dX12_tryRound_38 rfl ?_
    refine r_jL1 (j := 59) (lvj := fun y6 => [some (.ref (G.2.2.2 (0))), some (.int x1), some (.int x2), some (.int x3), some (.int y1), some (.int y4), none, none, none]) (stj := fun y6 => [.int y6]) (Mj := fun y6 => M) (fun y6 => ?_) (fun hj59 => ?_)
    · refine r_istore (lv' := [some (.ref (G.2.2.2 (0))), some (.int x1), some (.int x2), some (.int x3), some (.int y1), some (.int y4), some (.int y6), none, none]) dX12_tryRound_59 (Nat.le_of_ble_eq_true rfl) rfl rfl ?_
      refine r_aload_n dX12_tryRound_61 rfl ?_
      refine r_getf (v := .ref (G.2.2.2 (18))) dX12_tryRound_62 fM_0_26 kX12 (by decide) lkf_X12_66 rfl ?_
      refine r_iload dX12_tryRound_65 rfl ?_
      refine r_gd rfl (fun g7 => ?_)
      refine r_iald dX12_tryRound_67 aM_18 (inb_in g7) rfl ?_
      refine r_cB (jX := 96) (jY := 97) (lvX := [none, none, none, none, none, none, none, none, none]) (lvY := [some (.ref (G.2.2.2 (0))), some (.int x1), some (.int x2), some (.int x3), some (.int y1), some (.int y4), some (.int y6), none, none]) (stX := []) (M1 := M) (fun h15 => ?_) (fun h15 => ?_) (fun hX96 hY97 => ?_)
      · refine r_eq (if_pos rfl) ?_
        exact r_vret dX12_tryRound_96 rfl rfl
      · refine r_eq (if_neg (by decide)) ?_
        refine r_aload_n dX12_tryRound_97 rfl ?_
        refine r_getf (v := .ref (G.2.2.2 (19))) dX12_tryRound_98 fM_0_27 kX12 (by decide) lkf_X12_69 rfl ?_
        refine r_iload dX12_tryRound_101 rfl ?_
        refine r_gd rfl (fun g16 => ?_)
        refine r_iald dX12_tryRound_103 aM_19 (inb_in g16) rfl ?_
        refine r_aload_n dX12_tryRound_104 rfl ?_
        refine r_getf (v := .ref (G.2.2.2 (19))) dX12_tryRound_105 fM_0_27 kX12 (by decide) lkf_X12_69 rfl ?_
        refine r_iload dX12_tryRound_108 rfl ?_
        refine r_gd rfl (fun g17 => ?_)
        refine r_iald dX12_tryRound_110 aM_19 (inb_in g17) rfl ?_
        refine r_imul dX12_tryRound_111 ?_
        refine r_iload dX12_tryRound_112 rfl ?_
        refine r_jB1 (j := 128) (lvj := fun y20 => [some (.ref (G.2.2.2 (0))), some (.int x1), some (.int x2), some (.int x3), some (.int y1), some (.int y4), some (.int y6), none, none]) (stj := fun y20 => [.int y20, .int ((M.1 19 y1.toNatClampNeg) * (M.1 19 y4.toNatClampNeg))]) (Mj := fun y20 => M) (fun y20 => ?_) (fun hj128 => ?_)
        · refine r_imul dX12_tryRound_128 ?_
          refine r_letI (fun y21 => ?_)
          refine r_istore (lv' := [some (.ref (G.2.2.2 (0))), some (.int x1), some (.int x2), some (.int x3), some (.int y1), some (.int y4), some (.int y6), some (.int y21), none]) dX12_tryRound_129 (Nat.le_of_ble_eq_true rfl) rfl rfl ?_
          refine r_aload_n dX12_tryRound_131 rfl ?_
          refine r_getf (v := .ref (G.2.2.2 (18))) dX12_tryRound_132 fM_0_26 kX12 (by decide) lkf_X12_66 rfl ?_
          refine r_iload dX12_tryRound_135 rfl ?_
          refine r_iald dX12_tryRound_137 aM_18 (inb_in g7) rfl ?_
          refine r_aload_n dX12_tryRound_138 rfl ?_
          refine r_getf (v := .ref (G.2.2.2 (18))) dX12_tryRound_139 fM_0_26 kX12 (by decide) lkf_X12_66 rfl ?_
          refine r_iload dX12_tryRound_142 rfl ?_
          refine r_gd rfl (fun g22 => ?_)
          refine r_iald dX12_tryRound_144 aM_18 (inb_in g22) rfl ?_
          refine r_imul dX12_tryRound_145 ?_
          refine r_iload dX12_tryRound_146 rfl ?_
          refine r_jB1 (j := 162) (lvj := fun y25 => [some (.ref (G.2.2.2 (0))), some (.int x1), some (.int x2), some (.int x3), none, none, none, some (.int y21), none]) (stj := fun y25 => [.int y25, .int ((M.1 18 y1.toNatClampNeg) * (M.1 18 y4.toNatClampNeg))]) (Mj := fun y25 => M) (fun y25 => ?_) (fun hj162 => ?_)
          · refine r_imul dX12_tryRound_162 ?_
            refine r_letI (fun y26 => ?_)
            refine r_istore (lv' := [some (.ref (G.2.2.2 (0))), some (.int x1), some (.int x2), some (.int x3), none, none, none, some (.int y21), some (.int y26)]) dX12_tryRound_163 (Nat.le_of_ble_eq_true rfl) rfl rfl ?_
            refine r_aload_n dX12_tryRound_165 rfl ?_
            refine r_getf (v := .int (M.1 0 68)) dX12_tryRound_166 fM_0_68 kX12 (by decide) lkf_X12_537 rfl ?_
            refine r_cL (jX := 190) (jY := 189) (lvX := [some (.ref (G.2.2.2 (0))), some (.int x1), some (.int x2), some (.int x3), none, none, none, some (.int y21), some (.int y26)]) (lvY := [none, none, none, none, none, none, none, none, none]) (stX := []) (M1 := M) (fun h30 => ?_) (fun h30 => ?_) (fun hX190 hY189 => ?_)
            · refine r_eq (if_pos rfl) ?_
              refine r_aload_n dX12_tryRound_190 rfl ?_
              refine r_iload dX12_tryRound_191 rfl ?_
              refine r_putI dX12_tryRound_193 fM_0_67 kX12 (by decide) rfl rfl lkf_X12_540 (fun _ => rfl) rfl rfl (fun M31 => ?_)
              refine r_aload_n dX12_tryRound_196 rfl ?_
              refine r_iload dX12_tryRound_197 rfl ?_
              refine r_putI dX12_tryRound_199 fM_0_68 kX12 (by decide) rfl rfl lkf_X12_537 (fun _ => rfl) rfl rfl (fun M32 => ?_)
              refine r_aload_n dX12_tryRound_202 rfl ?_
              refine r_iload_n dX12_tryRound_203 rfl ?_
              refine r_jL1 (j := 227) (lvj := fun y34 => [none, none, none, none, none, none, none, none, none]) (stj := fun y34 => [.int y34, .ref (G.2.2.2 (0))]) (Mj := fun y34 => M32) (fun y34 => ?_) (fun hj227 => ?_)
              · refine r_putI dX12_tryRound_227 fM_0_69 kX12 (by decide) rfl rfl lkf_X12_543 (fun _ => rfl) rfl rfl (fun M35 => ?_)
                exact r_vret dX12_tryRound_230 rfl rfl
              refine r_if_ge (tgt := 216) dX12_tryRound_204 rfl (fun h33 => ?_) (fun h33 => ?_)
              · refine r_bipush (x := 100) dX12_tryRound_216 rfl ?_
                refine r_iload_n dX12_tryRound_218 rfl ?_
                refine r_imul dX12_tryRound_219 ?_
                refine r_bipush (x := 10) dX12_tryRound_220 rfl ?_
                refine r_iload_n dX12_tryRound_222 rfl ?_
                refine r_imul dX12_tryRound_223 ?_
                refine r_iadd dX12_tryRound_224 ?_
                refine r_iload_n dX12_tryRound_225 rfl ?_
                refine r_iadd dX12_tryRound_226 ?_
                exact r_lk (hj227 (((100 * x1) + (10 * x2)) + x3)) True.intro
              refine r_bipush (x := 10) dX12_tryRound_207 rfl ?_
              refine r_iload_n dX12_tryRound_209 rfl ?_
              refine r_imul dX12_tryRound_210 ?_
              refine r_iload_n dX12_tryRound_211 rfl ?_
              refine r_iadd dX12_tryRound_212 ?_
              refine r_goto (tgt := 227) dX12_tryRound_213 rfl ?_
              exact r_lk (hj227 ((10 * x1) + x2)) True.intro
            · refine r_eq (if_neg (by decide)) ?_
              exact r_vret dX12_tryRound_189 rfl rfl
            refine r_if_le (tgt := 190) dX12_tryRound_169 rfl (fun h27 => ?_) (fun h27 => ?_)
            · exact r_lk hX190 (And.intro rfl (And.intro rfl (And.intro rfl (And.intro rfl (And.intro rfl (And.intro rfl True.intro))))))
            refine r_iload dX12_tryRound_172 rfl ?_
            refine r_aload_n dX12_tryRound_174 rfl ?_
            refine r_getf (v := .int (M.1 0 68)) dX12_tryRound_175 fM_0_68 kX12 (by decide) lkf_X12_537 rfl ?_
            refine r_imul dX12_tryRound_178 ?_
            refine r_aload_n dX12_tryRound_179 rfl ?_
            refine r_getf (v := .int (M.1 0 67)) dX12_tryRound_180 fM_0_67 kX12 (by decide) lkf_X12_540 rfl ?_
            refine r_iload dX12_tryRound_183 rfl ?_
            refine r_imul dX12_tryRound_185 ?_
            refine r_icmp_gt (tgt := 190) dX12_tryRound_186 rfl (fun h28 => ?_) (fun h28 => ?_)
            · exact r_lk hX190 (And.intro rfl (And.intro rfl (And.intro rfl (And.intro rfl (And.intro rfl (And.intro rfl True.intro))))))
            exact r_lk hY189 True.intro
          refine r_if_ge (tgt := 155) dX12_tryRound_148 rfl (fun h23 => ?_) (fun h23 => ?_)
          · refine r_aload_n dX12_tryRound_155 rfl ?_
            refine r_getf (v := .ref (G.2.2.2 (18))) dX12_tryRound_156 fM_0_26 kX12 (by decide) lkf_X12_66 rfl ?_
            refine r_iload dX12_tryRound_159 rfl ?_
            refine r_gd rfl (fun g24 => ?_)
            refine r_iald dX12_tryRound_161 aM_18 (inb_in g24) rfl ?_
            exact r_lk (hj162 (M.1 18 y6.toNatClampNeg)) (And.intro rfl (And.intro rfl (And.intro rfl (And.intro rfl (And.intro rfl True.intro)))))
          refine r_iconst (x := 1) dX12_tryRound_151 rfl ?_
          refine r_goto (tgt := 162) dX12_tryRound_152 rfl ?_
          exact r_lk (hj162 1) (And.intro rfl (And.intro rfl (And.intro rfl (And.intro rfl (And.intro rfl True.intro)))))
        refine r_if_ge (tgt := 121) dX12_tryRound_114 rfl (fun h18 => ?_) (fun h18 => ?_)
        · refine r_aload_n dX12_tryRound_121 rfl ?_
          refine r_getf (v := .ref (G.2.2.2 (19))) dX12_tryRound_122 fM_0_27 kX12 (by decide) lkf_X12_69 rfl ?_
          refine r_iload dX12_tryRound_125 rfl ?_
          refine r_gd rfl (fun g19 => ?_)
          refine r_iald dX12_tryRound_127 aM_19 (inb_in g19) rfl ?_
          exact r_lk (hj128 (M.1 19 y6.toNatClampNeg)) (And.intro rfl (And.intro rfl (And.intro rfl (And.intro rfl (And.intro rfl (And.intro rfl (And.intro rfl True.intro)))))))
        refine r_iconst (x := 1) dX12_tryRound_117 rfl ?_
        refine r_goto (tgt := 128) dX12_tryRound_118 rfl ?_
        exact r_lk (hj128 1) (And.intro rfl (And.intro rfl (And.intro rfl (And.intro rfl (And.intro rfl (And.intro rfl (And.intro rfl True.intro)))))))
      refine r_if_eq (tgt := 96) dX12_tryRound_68 rfl (fun h8 => ?_) (fun h8 => ?_)
      · exact r_lk hX96 True.intro
      refine r_aload_n dX12_tryRound_71 rfl ?_
      refine r_getf (v := .ref (G.2.2.2 (18))) dX12_tryRound_72 fM_0_26 kX12 (by decide) lkf_X12_66 rfl ?_
      refine r_iload dX12_tryRound_75 rfl ?_
      refine r_gd rfl (fun g9 => ?_)
      refine r_iald dX12_tryRound_77 aM_18 (inb_in g9) rfl ?_
      refine r_if_eq (tgt := 96) dX12_tryRound_78 rfl (fun h10 => ?_) (fun h10 => ?_)
      · exact r_lk hX96 True.intro
      refine r_iload dX12_tryRound_81 rfl ?_
      refine r_if_lt (tgt := 97) dX12_tryRound_83 rfl (fun h11 => ?_) (fun h11 => ?_)
      · exact r_lk hY97 (And.intro rfl (And.intro rfl (And.intro rfl (And.intro rfl (And.intro rfl (And.intro rfl (And.intro rfl True.intro)))))))
      refine r_aload_n dX12_tryRound_86 rfl ?_
      refine r_getf (v := .ref (G.2.2.2 (18))) dX12_tryRound_87 fM_0_26 kX12 (by decide) lkf_X12_66 rfl ?_
      refine r_iload dX12_tryRound_90 rfl ?_
      refine r_gd rfl (fun g12 => ?_)
      refine r_iald dX12_tryRound_92 aM_18 (inb_in g12) rfl ?_
      refine r_if_ne (tgt := 97) dX12_tryRound_93 rfl (fun h13 => ?_) (fun h13 => ?_)
      · exact r_lk hX96 True.intro
      exact r_lk hY97 (And.intro rfl (And.intro rfl (And.intro rfl (And.intro rfl (And.intro rfl (And.intro rfl (And.intro rfl True.intro)))))))
    refine r_if_ge (tgt := 46) dX12_tryRound_39 rfl (fun h5 => ?_) (fun h5 => ?_)
    · refine r_bipush (x := 9) dX12_tryRound_46 rfl ?_
      refine r_aload_n dX12_tryRound_48 rfl ?_
      refine r_getf (v := .int (M.1 0 41)) dX12_tryRound_49 fM_0_41 kX12 (by decide) lkf_X12_301 rfl ?_
      refine r_imul dX12_tryRound_52 ?_
      refine r_iconst (x := 3) dX12_tryRound_53 rfl ?_
      refine r_iload_n dX12_tryRound_54 rfl ?_
      refine r_imul dX12_tryRound_55 ?_
      refine r_iadd dX12_tryRound_56 ?_
      refine r_iload_n dX12_tryRound_57 rfl ?_
      refine r_iadd dX12_tryRound_58 ?_
      exact r_lk (hj59 (((9 * (M.1 0 41)) + (3 * x3)) + x1)) (And.intro rfl (And.intro rfl (And.intro rfl (And.intro rfl (And.intro rfl (And.intro rfl True.intro))))))
    refine r_iconst (x := (-1)) dX12_tryRound_42 rfl ?_
    refine r_goto (tgt := 59) dX12_tryRound_43 rfl ?_
    exact r_lk (hj59 (-1)) (And.intro rfl (And.intro rfl (And.intro rfl (And.intro rfl (And.intro rfl (And.intro rfl True.intro))))))
  refine r_if_ge (tgt := 34) dX12_tryRound_27 rfl (fun h2 => ?_) (fun h2 => ?_)
  · refine r_iload_n dX12_tryRound_34 rfl ?_
    exact r_lk (hj35 x3) (And.intro rfl (And.intro rfl (And.intro rfl (And.intro rfl (And.intro rfl True.intro)))))
  refine r_iload_n dX12_tryRound_30 rfl ?_
  refine r_goto (tgt := 35) dX12_tryRound_31 rfl ?_
  exact r_lk (hj35 x1) (And.intro rfl (And.intro rfl (And.intro rfl (And.intro rfl (And.intro rfl True.intro)))))

theorem dX12_divisor_0 : decode cX12_divisor 0 = .ok (.iload_n 0, 1) := by decide +kernel
theorem dX12_divisor_1 : decode cX12_divisor 1 = .ok (.istore_n 2, 1) := by decide +kernel
theorem dX12_divisor_2 : decode cX12_divisor 2 = .ok (.iload_n 1, 1) := by decide +kernel
theorem dX12_divisor_3 : decode cX12_divisor 3 = .ok (.istore_n 3, 1) := by decide +kernel
theorem dX12_divisor_4 : decode cX12_divisor 4 = .ok (.iload_n 3, 1) := by decide +kernel
theorem dX12_divisor_5 : decode cX12_divisor 5 = .ok (.ifCond .le 16, 3) := by decide +kernel
theorem dX12_divisor_8 : decode cX12_divisor 8 = .ok (.iload_n 2, 1) := by decide +kernel
theorem dX12_divisor_9 : decode cX12_divisor 9 = .ok (.iload_n 3, 1) := by decide +kernel
theorem dX12_divisor_10 : decode cX12_divisor 10 = .ok (.irem, 1) := by decide +kernel
theorem dX12_divisor_11 : decode cX12_divisor 11 = .ok (.istore 4, 2) := by decide +kernel
theorem dX12_divisor_13 : decode cX12_divisor 13 = .ok (.iload_n 3, 1) := by decide +kernel
theorem dX12_divisor_14 : decode cX12_divisor 14 = .ok (.istore_n 2, 1) := by decide +kernel
theorem dX12_divisor_15 : decode cX12_divisor 15 = .ok (.iload 4, 2) := by decide +kernel
theorem dX12_divisor_17 : decode cX12_divisor 17 = .ok (.istore_n 3, 1) := by decide +kernel
theorem dX12_divisor_18 : decode cX12_divisor 18 = .ok (.goto (-14), 3) := by decide +kernel
theorem dX12_divisor_21 : decode cX12_divisor 21 = .ok (.iload_n 2, 1) := by decide +kernel
theorem dX12_divisor_22 : decode cX12_divisor 22 = .ok (.ireturn, 1) := by decide +kernel
abbrev mi_X12_divisor : MI := (zTM, RX12, yX12_divisor, cX12_divisor, 5, (some .int), 2)
theorem cal_X12_divisor : zCalS mi_X12_divisor 2 := ⟨⟨zTB_i9 59 (by decide +kernel), zTB_i9 58 (by decide +kernel), zTB_i1 13 (by decide +kernel)⟩, ⟨by decide, by decide, by decide +kernel⟩, by decide⟩
noncomputable def X12_divisor_L1 : Nat → Int32 → Int32 → Option (Int32)
  | 0, _, _ => none
  | n + 1, c2, c3 =>
    if c3 ≤ 0 then
      some c2
    else
    gd_ (¬ c3 = 0) (
    X12_divisor_L1 n c3 (c2 % c3))
noncomputable def X12_divisor (x0 : Int32) (x1 : Int32) : Option (Int32) :=
  b1_ (α := Int32) (X12_divisor_L1 zFU x0 x1) fun e3 =>
  some e3
set_option maxRecDepth 100000 in
set_option maxHeartbeats 4000000 in
theorem X12_divisor_L1_ok (G : Gh) (M : Mem) {dn : Option (Int32) → Option (Option Value × Mem)} (hs : dn none = none) (hx : ∀ (e3 : Int32), Wr G mi_X12_divisor dn 21 [none, none, some (.int e3), none, none] [] M (some e3)) : ∀ (n : Nat) (c2 : Int32) (c3 : Int32), Wr G mi_X12_divisor dn 4 [none, none, some (.int c2), some (.int c3), none] [] M (X12_divisor_L1 n c2 c3) := by
  intro n
  induction n with
  | zero => intro c2 c3; exact r_none (by exact hs)
  | succ n ih =>
    intro c2 c3
    rw [X12_divisor_L1]
    refine r_iload_n dX12_divisor_4 rfl ?_
    refine r_if_le (tgt := 21) dX12_divisor_5 rfl (fun h1 => ?_) (fun h1 => ?_)
    · exact r_lk (hx c2) (And.intro rfl True.intro)
    refine r_iload_n dX12_divisor_8 rfl ?_
    refine r_iload_n dX12_divisor_9 rfl ?_
    refine r_gd (by exact hs) (fun g2 => ?_)
    refine r_irem dX12_divisor_10 g2 ?_
    refine r_istore (lv' := [none, none, some (.int c2), some (.int c3), some (.int (c2 % c3))]) dX12_divisor_11 (Nat.le_of_ble_eq_true rfl) rfl rfl ?_
    refine r_iload_n dX12_divisor_13 rfl ?_
    refine r_istore_n (lv' := [none, none, some (.int c3), some (.int c3), some (.int (c2 % c3))]) dX12_divisor_14 (Nat.le_of_ble_eq_true rfl) rfl rfl ?_
    refine r_iload dX12_divisor_15 rfl ?_
    refine r_istore_n (lv' := [none, none, some (.int c3), some (.int (c2 % c3)), some (.int (c2 % c3))]) dX12_divisor_17 (Nat.le_of_ble_eq_true rfl) rfl rfl ?_
    refine r_goto (tgt := 4) dX12_divisor_18 rfl ?_
    exact r_lk (ih c3 (c2 % c3)) (And.intro rfl (And.intro rfl True.intro))
set_option maxRecDepth 100000 in
set_option maxHeartbeats 4000000 in
theorem X12_divisor_ok (G : Gh) (x0 : Int32) (x1 : Int32) (M : Mem) : Mt G mi_X12_divisor [.int x0, .int x1] M ((dO (dI M)) (X12_divisor x0 x1)) := by
  refine Mt_of (lv := [some (.int x0), some (.int x1)]) (by decide) rfl (Nat.le_of_ble_eq_true rfl) rfl ?_
  refine r_le (lv' := [some (.int x0), some (.int x1), none, none, none]) (And.intro rfl (And.intro rfl True.intro)) ?_
  unfold X12_divisor
  refine r_iload_n dX12_divisor_0 rfl ?_
  refine r_istore_n (lv' := [some (.int x0), some (.int x1), some (.int x0), none, none]) dX12_divisor_1 (Nat.le_of_ble_eq_true rfl) rfl rfl ?_
  refine r_iload_n dX12_divisor_2 rfl ?_
  refine r_istore_n (lv' := [some (.int x0), some (.int x1), some (.int x0), some (.int x1), none]) dX12_divisor_3 (Nat.le_of_ble_eq_true rfl) rfl rfl ?_
  refine r_jB1 (j := 21) (lvj := fun e3 => [none, none, some (.int e3), none, none]) (stj := fun e3 => []) (Mj := fun e3 => M) (fun e3 => ?_) (fun hj21 => ?_)
  · refine r_iload_n dX12_divisor_21 rfl ?_
    exact r_iret (ty := .int) dX12_divisor_22 rfl rfl rfl
  exact r_lk (X12_divisor_L1_ok G M rfl hj21 zFU x0 x1) (And.intro rfl (And.intro rfl True.intro))

theorem dX12_gain_0 : decode cX12_gain 0 = .ok (.iload_n 1, 1) := by decide +kernel
theorem dX12_gain_1 : decode cX12_gain 1 = .ok (.iconst 0, 1) := by decide +kernel
theorem dX12_gain_2 : decode cX12_gain 2 = .ok (.iconst 2, 1) := by decide +kernel
theorem dX12_gain_3 : decode cX12_gain 3 = .ok (.invokestatic 401, 3) := by decide +kernel
theorem dX12_gain_6 : decode cX12_gain 6 = .ok (.ifCond .ne 5, 3) := by decide +kernel
theorem dX12_gain_9 : decode cX12_gain 9 = .ok (.iconst (-1), 1) := by decide +kernel
theorem dX12_gain_10 : decode cX12_gain 10 = .ok (.ireturn, 1) := by decide +kernel
theorem dX12_gain_11 : decode cX12_gain 11 = .ok (.aload_n 0, 1) := by decide +kernel
theorem dX12_gain_12 : decode cX12_gain 12 = .ok (.iconst 0, 1) := by decide +kernel
theorem dX12_gain_13 : decode cX12_gain 13 = .ok (.putfield 537, 3) := by decide +kernel
theorem dX12_gain_16 : decode cX12_gain 16 = .ok (.aload_n 0, 1) := by decide +kernel
theorem dX12_gain_17 : decode cX12_gain 17 = .ok (.iconst 0, 1) := by decide +kernel
theorem dX12_gain_18 : decode cX12_gain 18 = .ok (.iconst 1, 1) := by decide +kernel
theorem dX12_gain_19 : decode cX12_gain 19 = .ok (.iconst (-1), 1) := by decide +kernel
theorem dX12_gain_20 : decode cX12_gain 20 = .ok (.invokevirtual 546, 3) := by decide +kernel
theorem dX12_gain_23 : decode cX12_gain 23 = .ok (.aload_n 0, 1) := by decide +kernel
theorem dX12_gain_24 : decode cX12_gain 24 = .ok (.iconst 0, 1) := by decide +kernel
theorem dX12_gain_25 : decode cX12_gain 25 = .ok (.iconst 2, 1) := by decide +kernel
theorem dX12_gain_26 : decode cX12_gain 26 = .ok (.iconst (-1), 1) := by decide +kernel
theorem dX12_gain_27 : decode cX12_gain 27 = .ok (.invokevirtual 546, 3) := by decide +kernel
theorem dX12_gain_30 : decode cX12_gain 30 = .ok (.aload_n 0, 1) := by decide +kernel
theorem dX12_gain_31 : decode cX12_gain 31 = .ok (.iconst 1, 1) := by decide +kernel
theorem dX12_gain_32 : decode cX12_gain 32 = .ok (.iconst 2, 1) := by decide +kernel
theorem dX12_gain_33 : decode cX12_gain 33 = .ok (.iconst (-1), 1) := by decide +kernel
theorem dX12_gain_34 : decode cX12_gain 34 = .ok (.invokevirtual 546, 3) := by decide +kernel
theorem dX12_gain_37 : decode cX12_gain 37 = .ok (.aload_n 0, 1) := by decide +kernel
theorem dX12_gain_38 : decode cX12_gain 38 = .ok (.iconst 0, 1) := by decide +kernel
theorem dX12_gain_39 : decode cX12_gain 39 = .ok (.iconst 1, 1) := by decide +kernel
theorem dX12_gain_40 : decode cX12_gain 40 = .ok (.iconst 2, 1) := by decide +kernel
theorem dX12_gain_41 : decode cX12_gain 41 = .ok (.invokevirtual 546, 3) := by decide +kernel
theorem dX12_gain_44 : decode cX12_gain 44 = .ok (.aload_n 0, 1) := by decide +kernel
theorem dX12_gain_45 : decode cX12_gain 45 = .ok (.iconst 0, 1) := by decide +kernel
theorem dX12_gain_46 : decode cX12_gain 46 = .ok (.iconst 2, 1) := by decide +kernel
theorem dX12_gain_47 : decode cX12_gain 47 = .ok (.iconst 1, 1) := by decide +kernel
theorem dX12_gain_48 : decode cX12_gain 48 = .ok (.invokevirtual 546, 3) := by decide +kernel
theorem dX12_gain_51 : decode cX12_gain 51 = .ok (.aload_n 0, 1) := by decide +kernel
theorem dX12_gain_52 : decode cX12_gain 52 = .ok (.getfield 537, 3) := by decide +kernel
theorem dX12_gain_55 : decode cX12_gain 55 = .ok (.ifCond .ne 5, 3) := by decide +kernel
theorem dX12_gain_58 : decode cX12_gain 58 = .ok (.iconst (-1), 1) := by decide +kernel
theorem dX12_gain_59 : decode cX12_gain 59 = .ok (.ireturn, 1) := by decide +kernel
theorem dX12_gain_60 : decode cX12_gain 60 = .ok (.aload_n 0, 1) := by decide +kernel
theorem dX12_gain_61 : decode cX12_gain 61 = .ok (.getfield 540, 3) := by decide +kernel
theorem dX12_gain_64 : decode cX12_gain 64 = .ok (.aload_n 0, 1) := by decide +kernel
theorem dX12_gain_65 : decode cX12_gain 65 = .ok (.getfield 537, 3) := by decide +kernel
theorem dX12_gain_68 : decode cX12_gain 68 = .ok (.invokestatic 549, 3) := by decide +kernel
theorem dX12_gain_71 : decode cX12_gain 71 = .ok (.istore_n 2, 1) := by decide +kernel
theorem dX12_gain_72 : decode cX12_gain 72 = .ok (.iload_n 1, 1) := by decide +kernel
theorem dX12_gain_73 : decode cX12_gain 73 = .ok (.ifCond .ne 12, 3) := by decide +kernel
theorem dX12_gain_76 : decode cX12_gain 76 = .ok (.aload_n 0, 1) := by decide +kernel
theorem dX12_gain_77 : decode cX12_gain 77 = .ok (.getfield 540, 3) := by decide +kernel
theorem dX12_gain_80 : decode cX12_gain 80 = .ok (.iload_n 2, 1) := by decide +kernel
theorem dX12_gain_81 : decode cX12_gain 81 = .ok (.idiv, 1) := by decide +kernel
theorem dX12_gain_82 : decode cX12_gain 82 = .ok (.goto 21, 3) := by decide +kernel
theorem dX12_gain_85 : decode cX12_gain 85 = .ok (.iload_n 1, 1) := by decide +kernel
theorem dX12_gain_86 : decode cX12_gain 86 = .ok (.iconst 1, 1) := by decide +kernel
theorem dX12_gain_87 : decode cX12_gain 87 = .ok (.if_icmp .ne 12, 3) := by decide +kernel
theorem dX12_gain_90 : decode cX12_gain 90 = .ok (.aload_n 0, 1) := by decide +kernel
theorem dX12_gain_91 : decode cX12_gain 91 = .ok (.getfield 537, 3) := by decide +kernel
theorem dX12_gain_94 : decode cX12_gain 94 = .ok (.iload_n 2, 1) := by decide +kernel
theorem dX12_gain_95 : decode cX12_gain 95 = .ok (.idiv, 1) := by decide +kernel
theorem dX12_gain_96 : decode cX12_gain 96 = .ok (.goto 7, 3) := by decide +kernel
theorem dX12_gain_99 : decode cX12_gain 99 = .ok (.aload_n 0, 1) := by decide +kernel
theorem dX12_gain_100 : decode cX12_gain 100 = .ok (.getfield 543, 3) := by decide +kernel
theorem dX12_gain_103 : decode cX12_gain 103 = .ok (.ireturn, 1) := by decide +kernel
abbrev mi_X12_gain : MI := (zTM, RX12, yX12_gain, cX12_gain, 3, (some .int), 3)
theorem cal_X12_gain : zCalV mi_X12_gain 1 := ⟨⟨zTB_i9 52 (by decide +kernel), zTB_i9 50 (by decide +kernel), zTB_i9 51 (by decide +kernel), zTB_i1 13 (by decide +kernel)⟩, ⟨by decide, by decide, by decide +kernel⟩, by decide⟩
noncomputable def X12_gain (x1 : Int32) (M : Mem) : Option (Int32 × Mem) :=
  if (X12_isIn x1 0 2) = true then
    lt_ (uI M 0 68 0) fun M2 =>
    bo_ (X12_tryRound 0 1 (-1) M2) fun M3 =>
    bo_ (X12_tryRound 0 2 (-1) M3) fun M4 =>
    bo_ (X12_tryRound 1 2 (-1) M4) fun M5 =>
    bo_ (X12_tryRound 0 1 2 M5) fun M6 =>
    bo_ (X12_tryRound 0 2 1 M6) fun M7 =>
    if (M7.1 0 68) = 0 then
      some ((-1), M7)
    else
    bo_ (X12_divisor (M7.1 0 67) (M7.1 0 68)) fun v9 =>
    if x1 = 0 then
      gd_ (¬ v9 = 0) (
      some ((M7.1 0 67) / v9, M7))
    else
    if x1 = 1 then
      gd_ (¬ v9 = 0) (
      some ((M7.1 0 68) / v9, M7))
    else
    some (M7.1 0 69, M7)
  else
  some ((-1), M)
set_option maxRecDepth 100000 in
set_option maxHeartbeats 4000000 in
theorem X12_gain_ok (G : Gh) (x1 : Int32) (M : Mem) : Mt G mi_X12_gain [.ref (G.2.2.2 (0)), .int x1] M ((dO dIM) (X12_gain x1 M)) := by
  refine Mt_of (lv := [some (.ref (G.2.2.2 (0))), some (.int x1)]) (by decide) rfl (Nat.le_of_ble_eq_true rfl) rfl ?_
  refine r_le (lv' := [some (.ref (G.2.2.2 (0))), some (.int x1), none]) (And.intro rfl (And.intro rfl True.intro)) ?_
  unfold X12_gain
  refine r_iload_n dX12_gain_0 rfl ?_
  refine r_iconst (x := 0) dX12_gain_1 rfl ?_
  refine r_iconst (x := 2) dX12_gain_2 rfl ?_
  refine c_Z (inv_S (mi := mi_X12_gain) (rest := []) (X12_isIn_ok G x1 0 2 M) rfl (by decide) dX12_gain_3 lkm_X12_401 cal_X12_isIn rfl (Nat.le_of_ble_eq_true rfl) rfl) ?_
  refine r_ifz_ne (tgt := 11) dX12_gain_6 rfl (fun h1 => ?_) (fun h1 => ?_)
  · refine r_aload_n dX12_gain_11 rfl ?_
    refine r_iconst (x := 0) dX12_gain_12 rfl ?_
    refine r_putI dX12_gain_13 fM_0_68 kX12 (by decide) rfl rfl lkf_X12_537 (fun _ => rfl) rfl rfl (fun M2 => ?_)
    refine r_aload_n dX12_gain_16 rfl ?_
    refine r_iconst (x := 0) dX12_gain_17 rfl ?_
    refine r_iconst (x := 1) dX12_gain_18 rfl ?_
    refine r_iconst (x := (-1)) dX12_gain_19 rfl ?_
    refine c_OV rfl (inv_V (mi := mi_X12_gain) (b := 0) (rest := []) (X12_tryRound_ok G 0 1 (-1) M2) rfl (by decide) dX12_gain_20 lkm_X12_546 cal_X12_tryRound cM_0 rfl rfl (Nat.le_of_ble_eq_true rfl) rfl) (fun M3 => ?_)
    refine r_aload_n dX12_gain_23 rfl ?_
    refine r_iconst (x := 0) dX12_gain_24 rfl ?_
    refine r_iconst (x := 2) dX12_gain_25 rfl ?_
    refine r_iconst (x := (-1)) dX12_gain_26 rfl ?_
    refine c_OV rfl (inv_V (mi := mi_X12_gain) (b := 0) (rest := []) (X12_tryRound_ok G 0 2 (-1) M3) rfl (by decide) dX12_gain_27 lkm_X12_546 cal_X12_tryRound cM_0 rfl rfl (Nat.le_of_ble_eq_true rfl) rfl) (fun M4 => ?_)
    refine r_aload_n dX12_gain_30 rfl ?_
    refine r_iconst (x := 1) dX12_gain_31 rfl ?_
    refine r_iconst (x := 2) dX12_gain_32 rfl ?_
    refine r_iconst (x := (-1)) dX12_gain_33 rfl ?_
    refine c_OV rfl (inv_V (mi := mi_X12_gain) (b := 0) (rest := []) (X12_tryRound_ok G 1 2 (-1) M4) rfl (by decide) dX12_gain_34 lkm_X12_546 cal_X12_tryRound cM_0 rfl rfl (Nat.le_of_ble_eq_true rfl) rfl) (fun M5 => ?_)
    refine r_aload_n dX12_gain_37 rfl ?_
    refine r_iconst (x := 0) dX12_gain_38 rfl ?_
    refine r_iconst (x := 1) dX12_gain_39 rfl ?_
    refine r_iconst (x := 2) dX12_gain_40 rfl ?_
    refine c_OV rfl (inv_V (mi := mi_X12_gain) (b := 0) (rest := []) (X12_tryRound_ok G 0 1 2 M5) rfl (by decide) dX12_gain_41 lkm_X12_546 cal_X12_tryRound cM_0 rfl rfl (Nat.le_of_ble_eq_true rfl) rfl) (fun M6 => ?_)
    refine r_aload_n dX12_gain_44 rfl ?_
    refine r_iconst (x := 0) dX12_gain_45 rfl ?_
    refine r_iconst (x := 2) dX12_gain_46 rfl ?_
    refine r_iconst (x := 1) dX12_gain_47 rfl ?_
    refine c_OV rfl (inv_V (mi := mi_X12_gain) (b := 0) (rest := []) (X12_tryRound_ok G 0 2 1 M6) rfl (by decide) dX12_gain_48 lkm_X12_546 cal_X12_tryRound cM_0 rfl rfl (Nat.le_of_ble_eq_true rfl) rfl) (fun M7 => ?_)
    refine r_aload_n dX12_gain_51 rfl ?_
    refine r_getf (v := .int (M7.1 0 68)) dX12_gain_52 fM_0_68 kX12 (by decide) lkf_X12_537 rfl ?_
    refine r_if_ne (tgt := 60) dX12_gain_55 rfl (fun h8 => ?_) (fun h8 => ?_)
    · refine r_iconst (x := (-1)) dX12_gain_58 rfl ?_
      exact r_iret (ty := .int) dX12_gain_59 rfl rfl rfl
    refine r_aload_n dX12_gain_60 rfl ?_
    refine r_getf (v := .int (M7.1 0 67)) dX12_gain_61 fM_0_67 kX12 (by decide) lkf_X12_540 rfl ?_
    refine r_aload_n dX12_gain_64 rfl ?_
    refine r_getf (v := .int (M7.1 0 68)) dX12_gain_65 fM_0_68 kX12 (by decide) lkf_X12_537 rfl ?_
    refine c_OI rfl (inv_S (mi := mi_X12_gain) (rest := []) (X12_divisor_ok G (M7.1 0 67) (M7.1 0 68) M7) rfl (by decide) dX12_gain_68 lkm_X12_549 cal_X12_divisor rfl (Nat.le_of_ble_eq_true rfl) rfl) (fun v9 => ?_)
    refine r_istore_n (lv' := [some (.ref (G.2.2.2 (0))), some (.int x1), some (.int v9)]) dX12_gain_71 (Nat.le_of_ble_eq_true rfl) rfl rfl ?_
    refine r_iload_n dX12_gain_72 rfl ?_
    refine r_if_ne (tgt := 85) dX12_gain_73 rfl (fun h10 => ?_) (fun h10 => ?_)
    · refine r_aload_n dX12_gain_76 rfl ?_
      refine r_getf (v := .int (M7.1 0 67)) dX12_gain_77 fM_0_67 kX12 (by decide) lkf_X12_540 rfl ?_
      refine r_iload_n dX12_gain_80 rfl ?_
      refine r_gd rfl (fun g13 => ?_)
      refine r_idiv dX12_gain_81 g13 ?_
      refine r_goto (tgt := 103) dX12_gain_82 rfl ?_
      exact r_iret (ty := .int) dX12_gain_103 rfl rfl rfl
    refine r_iload_n dX12_gain_85 rfl ?_
    refine r_iconst (x := 1) dX12_gain_86 rfl ?_
    refine r_icmp_ne (tgt := 99) dX12_gain_87 rfl (fun h11 => ?_) (fun h11 => ?_)
    · refine r_aload_n dX12_gain_90 rfl ?_
      refine r_getf (v := .int (M7.1 0 68)) dX12_gain_91 fM_0_68 kX12 (by decide) lkf_X12_537 rfl ?_
      refine r_iload_n dX12_gain_94 rfl ?_
      refine r_gd rfl (fun g12 => ?_)
      refine r_idiv dX12_gain_95 g12 ?_
      refine r_goto (tgt := 103) dX12_gain_96 rfl ?_
      exact r_iret (ty := .int) dX12_gain_103 rfl rfl rfl
    refine r_aload_n dX12_gain_99 rfl ?_
    refine r_getf (v := .int (M7.1 0 69)) dX12_gain_100 fM_0_69 kX12 (by decide) lkf_X12_543 rfl ?_
    exact r_iret (ty := .int) dX12_gain_103 rfl rfl rfl
  refine r_iconst (x := (-1)) dX12_gain_9 rfl ?_
  exact r_iret (ty := .int) dX12_gain_10 rfl rfl rfl

theorem dX12_lies_0 : decode cX12_lies 0 = .ok (.iload_n 1, 1) := by decide +kernel
theorem dX12_lies_1 : decode cX12_lies 1 = .ok (.iconst 0, 1) := by decide +kernel
theorem dX12_lies_2 : decode cX12_lies 2 = .ok (.aload_n 0, 1) := by decide +kernel
theorem dX12_lies_3 : decode cX12_lies 3 = .ok (.getfield 414, 3) := by decide +kernel
theorem dX12_lies_6 : decode cX12_lies 6 = .ok (.iconst 1, 1) := by decide +kernel
theorem dX12_lies_7 : decode cX12_lies 7 = .ok (.isub, 1) := by decide +kernel
theorem dX12_lies_8 : decode cX12_lies 8 = .ok (.invokestatic 401, 3) := by decide +kernel
theorem dX12_lies_11 : decode cX12_lies 11 = .ok (.ifCond .eq 12, 3) := by decide +kernel
theorem dX12_lies_14 : decode cX12_lies 14 = .ok (.aload_n 0, 1) := by decide +kernel
theorem dX12_lies_15 : decode cX12_lies 15 = .ok (.getfield 125, 3) := by decide +kernel
theorem dX12_lies_18 : decode cX12_lies 18 = .ok (.iload_n 1, 1) := by decide +kernel
theorem dX12_lies_19 : decode cX12_lies 19 = .ok (.iaload, 1) := by decide +kernel
theorem dX12_lies_20 : decode cX12_lies 20 = .ok (.goto 4, 3) := by decide +kernel
theorem dX12_lies_23 : decode cX12_lies 23 = .ok (.iconst (-1), 1) := by decide +kernel
theorem dX12_lies_24 : decode cX12_lies 24 = .ok (.ireturn, 1) := by decide +kernel
abbrev mi_X12_lies : MI := (zTM, RX12, yX12_lies, cX12_lies, 2, (some .int), 3)
theorem cal_X12_lies : zCalV mi_X12_lies 1 := ⟨⟨zTB_i8 175 (by decide +kernel), zTB_i8 173 (by decide +kernel), zTB_i8 174 (by decide +kernel), zTB_i1 13 (by decide +kernel)⟩, ⟨by decide, by decide, by decide +kernel⟩, by decide⟩
noncomputable def X12_lies (x1 : Int32) (M : Mem) : Option (Int32) :=
  if (X12_isIn x1 0 ((M.1 0 55) - 1)) = true then
    gd_ (inb x1 (8) = true) (
    some (M.1 37 x1.toNatClampNeg))
  else
  some (-1)
set_option maxRecDepth 100000 in
set_option maxHeartbeats 4000000 in
theorem X12_lies_ok (G : Gh) (x1 : Int32) (M : Mem) : Mt G mi_X12_lies [.ref (G.2.2.2 (0)), .int x1] M ((dO (dI M)) (X12_lies x1 M)) := by
  refine Mt_of (lv := [some (.ref (G.2.2.2 (0))), some (.int x1)]) (by decide) rfl (Nat.le_of_ble_eq_true rfl) rfl ?_
  unfold X12_lies
  refine r_iload_n dX12_lies_0 rfl ?_
  refine r_iconst (x := 0) dX12_lies_1 rfl ?_
  refine r_aload_n dX12_lies_2 rfl ?_
  refine r_getf (v := .int (M.1 0 55)) dX12_lies_3 fM_0_55 kX12 (by decide) lkf_X12_414 rfl ?_
  refine r_iconst (x := 1) dX12_lies_6 rfl ?_
  refine r_isub dX12_lies_7 ?_
  refine c_Z (inv_S (mi := mi_X12_lies) (rest := []) (X12_isIn_ok G x1 0 ((M.1 0 55) - 1) M) rfl (by decide) dX12_lies_8 lkm_X12_401 cal_X12_isIn rfl (Nat.le_of_ble_eq_true rfl) rfl) ?_
  refine r_ifz_eq (tgt := 23) dX12_lies_11 rfl (fun h1 => ?_) (fun h1 => ?_)
  · refine r_aload_n dX12_lies_14 rfl ?_
    refine r_getf (v := .ref (G.2.2.2 (37))) dX12_lies_15 fM_0_54 kX12 (by decide) lkf_X12_125 rfl ?_
    refine r_iload_n dX12_lies_18 rfl ?_
    refine r_gd rfl (fun g2 => ?_)
    refine r_iald dX12_lies_19 aM_37 (inb_in g2) rfl ?_
    refine r_goto (tgt := 24) dX12_lies_20 rfl ?_
    exact r_iret (ty := .int) dX12_lies_24 rfl rfl rfl
  refine r_iconst (x := (-1)) dX12_lies_23 rfl ?_
  exact r_iret (ty := .int) dX12_lies_24 rfl rfl rfl

theorem dX12_firsts_0 : decode cX12_firsts 0 = .ok (.aload_n 0, 1) := by decide +kernel
theorem dX12_firsts_1 : decode cX12_firsts 1 = .ok (.invokevirtual 398, 3) := by decide +kernel
theorem dX12_firsts_4 : decode cX12_firsts 4 = .ok (.aload_n 0, 1) := by decide +kernel
theorem dX12_firsts_5 : decode cX12_firsts 5 = .ok (.getfield 27, 3) := by decide +kernel
theorem dX12_firsts_8 : decode cX12_firsts 8 = .ok (.aload_n 0, 1) := by decide +kernel
theorem dX12_firsts_9 : decode cX12_firsts 9 = .ok (.getfield 301, 3) := by decide +kernel
theorem dX12_firsts_12 : decode cX12_firsts 12 = .ok (.iaload, 1) := by decide +kernel
theorem dX12_firsts_13 : decode cX12_firsts 13 = .ok (.invokestatic 452, 3) := by decide +kernel
theorem dX12_firsts_16 : decode cX12_firsts 16 = .ok (.ireturn, 1) := by decide +kernel
abbrev mi_X12_firsts : MI := (zTM, RX12, yX12_firsts, cX12_firsts, 1, (some .int), 3)
theorem cal_X12_firsts : zCalV mi_X12_firsts 0 := ⟨⟨zTB_i9 71 (by decide +kernel), zTB_i9 70 (by decide +kernel), zTB_i0 113 (by decide +kernel), zTB_i1 13 (by decide +kernel)⟩, ⟨by decide, by decide, by decide +kernel⟩, by decide⟩
noncomputable def X12_firsts (M : Mem) : Option (Int32) :=
  bo_ (X12_many M) fun v1 =>
  gd_ (inb (M.1 0 41) (2) = true) (
  some (X12_lesser v1 (M.1 5 ((M.1 0 41).toNatClampNeg))))
set_option maxRecDepth 100000 in
set_option maxHeartbeats 4000000 in
theorem X12_firsts_ok (G : Gh) (M : Mem) : Mt G mi_X12_firsts [.ref (G.2.2.2 (0))] M ((dO (dI M)) (X12_firsts M)) := by
  refine Mt_of (lv := [some (.ref (G.2.2.2 (0)))]) (by decide) rfl (Nat.le_of_ble_eq_true rfl) rfl ?_
  unfold X12_firsts
  refine r_aload_n dX12_firsts_0 rfl ?_
  refine c_OI rfl (inv_V (mi := mi_X12_firsts) (b := 0) (rest := []) (X12_many_ok G M) rfl (by decide) dX12_firsts_1 lkm_X12_398 cal_X12_many cM_0 rfl rfl (Nat.le_of_ble_eq_true rfl) rfl) (fun v1 => ?_)
  refine r_aload_n dX12_firsts_4 rfl ?_
  refine r_getf (v := .ref (G.2.2.2 (5))) dX12_firsts_5 fM_0_13 kX12 (by decide) lkf_X12_27 rfl ?_
  refine r_aload_n dX12_firsts_8 rfl ?_
  refine r_getf (v := .int (M.1 0 41)) dX12_firsts_9 fM_0_41 kX12 (by decide) lkf_X12_301 rfl ?_
  refine r_gd rfl (fun g2 => ?_)
  refine r_iald dX12_firsts_12 aM_5 (inb_in g2) rfl ?_
  refine c_I (inv_S (mi := mi_X12_firsts) (rest := []) (X12_lesser_ok G v1 (M.1 5 ((M.1 0 41).toNatClampNeg)) M) rfl (by decide) dX12_firsts_13 lkm_X12_452 cal_X12_lesser rfl (Nat.le_of_ble_eq_true rfl) rfl) ?_
  exact r_iret (ty := .int) dX12_firsts_16 rfl rfl rfl

theorem dX12_isFirst_0 : decode cX12_isFirst 0 = .ok (.iload_n 1, 1) := by decide +kernel
theorem dX12_isFirst_1 : decode cX12_isFirst 1 = .ok (.iconst 0, 1) := by decide +kernel
theorem dX12_isFirst_2 : decode cX12_isFirst 2 = .ok (.aload_n 0, 1) := by decide +kernel
theorem dX12_isFirst_3 : decode cX12_isFirst 3 = .ok (.invokevirtual 552, 3) := by decide +kernel
theorem dX12_isFirst_6 : decode cX12_isFirst 6 = .ok (.iconst 1, 1) := by decide +kernel
theorem dX12_isFirst_7 : decode cX12_isFirst 7 = .ok (.isub, 1) := by decide +kernel
theorem dX12_isFirst_8 : decode cX12_isFirst 8 = .ok (.invokestatic 401, 3) := by decide +kernel
theorem dX12_isFirst_11 : decode cX12_isFirst 11 = .ok (.ireturn, 1) := by decide +kernel
abbrev mi_X12_isFirst : MI := (zTM, RX12, yX12_isFirst, cX12_isFirst, 2, (some .boolean), 4)
theorem cal_X12_isFirst : zCalV mi_X12_isFirst 1 := ⟨⟨zTB_i9 67 (by decide +kernel), zTB_i9 66 (by decide +kernel), zTB_i0 112 (by decide +kernel), zTB_i1 13 (by decide +kernel)⟩, ⟨by decide, by decide, by decide +kernel⟩, by decide⟩
noncomputable def X12_isFirst (x1 : Int32) (M : Mem) : Option (Bool) :=
  bo_ (X12_firsts M) fun v1 =>
  some (X12_isIn x1 0 (v1 - 1))
set_option maxRecDepth 100000 in
set_option maxHeartbeats 4000000 in
theorem X12_isFirst_ok (G : Gh) (x1 : Int32) (M : Mem) : Mt G mi_X12_isFirst [.ref (G.2.2.2 (0)), .int x1] M ((dO (dZ M)) (X12_isFirst x1 M)) := by
  refine Mt_of (lv := [some (.ref (G.2.2.2 (0))), some (.int x1)]) (by decide) rfl (Nat.le_of_ble_eq_true rfl) rfl ?_
  unfold X12_isFirst
  refine r_iload_n dX12_isFirst_0 rfl ?_
  refine r_iconst (x := 0) dX12_isFirst_1 rfl ?_
  refine r_aload_n dX12_isFirst_2 rfl ?_
  refine c_OI rfl (inv_V (mi := mi_X12_isFirst) (b := 0) (rest := [.int 0, .int x1]) (X12_firsts_ok G M) rfl (by decide) dX12_isFirst_3 lkm_X12_552 cal_X12_firsts cM_0 rfl rfl (Nat.le_of_ble_eq_true rfl) rfl) (fun v1 => ?_)
  refine r_iconst (x := 1) dX12_isFirst_6 rfl ?_
  refine r_isub dX12_isFirst_7 ?_
  refine c_Z (inv_S (mi := mi_X12_isFirst) (rest := []) (X12_isIn_ok G x1 0 (v1 - 1) M) rfl (by decide) dX12_isFirst_8 lkm_X12_401 cal_X12_isIn rfl (Nat.le_of_ble_eq_true rfl) rfl) ?_
  exact r_iret (ty := .boolean) dX12_isFirst_11 rfl (b2i_n _) rfl

theorem dX12_tell_0 : decode cX12_tell 0 = .ok (.aload_n 0, 1) := by decide +kernel
theorem dX12_tell_1 : decode cX12_tell 1 = .ok (.getfield 149, 3) := by decide +kernel
theorem dX12_tell_4 : decode cX12_tell 4 = .ok (.aload_n 0, 1) := by decide +kernel
theorem dX12_tell_5 : decode cX12_tell 5 = .ok (.getfield 411, 3) := by decide +kernel
theorem dX12_tell_8 : decode cX12_tell 8 = .ok (.iload_n 1, 1) := by decide +kernel
theorem dX12_tell_9 : decode cX12_tell 9 = .ok (.iastore, 1) := by decide +kernel
theorem dX12_tell_10 : decode cX12_tell 10 = .ok (.aload_n 0, 1) := by decide +kernel
theorem dX12_tell_11 : decode cX12_tell 11 = .ok (.getfield 152, 3) := by decide +kernel
theorem dX12_tell_14 : decode cX12_tell 14 = .ok (.aload_n 0, 1) := by decide +kernel
theorem dX12_tell_15 : decode cX12_tell 15 = .ok (.getfield 411, 3) := by decide +kernel
theorem dX12_tell_18 : decode cX12_tell 18 = .ok (.iload_n 2, 1) := by decide +kernel
theorem dX12_tell_19 : decode cX12_tell 19 = .ok (.iastore, 1) := by decide +kernel
theorem dX12_tell_20 : decode cX12_tell 20 = .ok (.aload_n 0, 1) := by decide +kernel
theorem dX12_tell_21 : decode cX12_tell 21 = .ok (.getfield 155, 3) := by decide +kernel
theorem dX12_tell_24 : decode cX12_tell 24 = .ok (.aload_n 0, 1) := by decide +kernel
theorem dX12_tell_25 : decode cX12_tell 25 = .ok (.getfield 411, 3) := by decide +kernel
theorem dX12_tell_28 : decode cX12_tell 28 = .ok (.iload_n 3, 1) := by decide +kernel
theorem dX12_tell_29 : decode cX12_tell 29 = .ok (.iastore, 1) := by decide +kernel
theorem dX12_tell_30 : decode cX12_tell 30 = .ok (.aload_n 0, 1) := by decide +kernel
theorem dX12_tell_31 : decode cX12_tell 31 = .ok (.getfield 158, 3) := by decide +kernel
theorem dX12_tell_34 : decode cX12_tell 34 = .ok (.aload_n 0, 1) := by decide +kernel
theorem dX12_tell_35 : decode cX12_tell 35 = .ok (.getfield 411, 3) := by decide +kernel
theorem dX12_tell_38 : decode cX12_tell 38 = .ok (.iload 4, 2) := by decide +kernel
theorem dX12_tell_40 : decode cX12_tell 40 = .ok (.ifCond .eq 7, 3) := by decide +kernel
theorem dX12_tell_43 : decode cX12_tell 43 = .ok (.iconst 1, 1) := by decide +kernel
theorem dX12_tell_44 : decode cX12_tell 44 = .ok (.goto 4, 3) := by decide +kernel
theorem dX12_tell_47 : decode cX12_tell 47 = .ok (.iconst 0, 1) := by decide +kernel
theorem dX12_tell_48 : decode cX12_tell 48 = .ok (.iastore, 1) := by decide +kernel
theorem dX12_tell_49 : decode cX12_tell 49 = .ok (.aload_n 0, 1) := by decide +kernel
theorem dX12_tell_50 : decode cX12_tell 50 = .ok (.getfield 161, 3) := by decide +kernel
theorem dX12_tell_53 : decode cX12_tell 53 = .ok (.aload_n 0, 1) := by decide +kernel
theorem dX12_tell_54 : decode cX12_tell 54 = .ok (.getfield 411, 3) := by decide +kernel
theorem dX12_tell_57 : decode cX12_tell 57 = .ok (.aload_n 0, 1) := by decide +kernel
theorem dX12_tell_58 : decode cX12_tell 58 = .ok (.getfield 555, 3) := by decide +kernel
theorem dX12_tell_61 : decode cX12_tell 61 = .ok (.iastore, 1) := by decide +kernel
theorem dX12_tell_62 : decode cX12_tell 62 = .ok (.aload_n 0, 1) := by decide +kernel
theorem dX12_tell_63 : decode cX12_tell 63 = .ok (.getfield 164, 3) := by decide +kernel
theorem dX12_tell_66 : decode cX12_tell 66 = .ok (.aload_n 0, 1) := by decide +kernel
theorem dX12_tell_67 : decode cX12_tell 67 = .ok (.getfield 411, 3) := by decide +kernel
theorem dX12_tell_70 : decode cX12_tell 70 = .ok (.iconst (-1), 1) := by decide +kernel
theorem dX12_tell_71 : decode cX12_tell 71 = .ok (.iastore, 1) := by decide +kernel
theorem dX12_tell_72 : decode cX12_tell 72 = .ok (.aload_n 0, 1) := by decide +kernel
theorem dX12_tell_73 : decode cX12_tell 73 = .ok (.dup, 1) := by decide +kernel
theorem dX12_tell_74 : decode cX12_tell 74 = .ok (.getfield 411, 3) := by decide +kernel
theorem dX12_tell_77 : decode cX12_tell 77 = .ok (.iconst 1, 1) := by decide +kernel
theorem dX12_tell_78 : decode cX12_tell 78 = .ok (.iadd, 1) := by decide +kernel
theorem dX12_tell_79 : decode cX12_tell 79 = .ok (.putfield 411, 3) := by decide +kernel
theorem dX12_tell_82 : decode cX12_tell 82 = .ok (.aload_n 0, 1) := by decide +kernel
theorem dX12_tell_83 : decode cX12_tell 83 = .ok (.getfield 411, 3) := by decide +kernel
theorem dX12_tell_86 : decode cX12_tell 86 = .ok (.iconst 1, 1) := by decide +kernel
theorem dX12_tell_87 : decode cX12_tell 87 = .ok (.isub, 1) := by decide +kernel
theorem dX12_tell_88 : decode cX12_tell 88 = .ok (.ireturn, 1) := by decide +kernel
abbrev mi_X12_tell : MI := (zTM, RX12, yX12_tell, cX12_tell, 5, (some .int), 2)
theorem cal_X12_tell : zCalV mi_X12_tell 4 := ⟨⟨zTB_i9 75 (by decide +kernel), zTB_i9 74 (by decide +kernel), zTB_i0 114 (by decide +kernel), zTB_i1 13 (by decide +kernel)⟩, ⟨by decide, by decide, by decide +kernel⟩, by decide⟩
noncomputable def X12_tell (x1 : Int32) (x2 : Int32) (x3 : Int32) (x4 : Int32) (M : Mem) : Option (Int32 × Mem) :=
  gd_ (inb (M.1 0 78) (30) = true) (
  lt_ (uI M 45 ((M.1 0 78).toNatClampNeg) x1) fun M2 =>
  gd_ (inb (M2.1 0 78) (30) = true) (
  lt_ (uI M2 46 ((M2.1 0 78).toNatClampNeg) x2) fun M4 =>
  gd_ (inb (M4.1 0 78) (30) = true) (
  lt_ (uI M4 47 ((M4.1 0 78).toNatClampNeg) x3) fun M6 =>
  l1_ (α := Int32) (
    if x4 = 0 then
      0
    else
    1) fun y8 =>
  gd_ (inb (M6.1 0 78) (30) = true) (
  lt_ (uI M6 48 ((M6.1 0 78).toNatClampNeg) y8) fun M10 =>
  gd_ (inb (M10.1 0 78) (30) = true) (
  lt_ (uI M10 49 ((M10.1 0 78).toNatClampNeg) (M10.1 0 79)) fun M12 =>
  gd_ (inb (M12.1 0 78) (30) = true) (
  lt_ (uI M12 50 ((M12.1 0 78).toNatClampNeg) (-1)) fun M14 =>
  lt_ (uI M14 0 78 ((M14.1 0 78) + 1)) fun M15 =>
  some ((M15.1 0 78) - 1, M15)))))))
set_option maxRecDepth 100000 in
set_option maxHeartbeats 4000000 in
theorem X12_tell_ok (G : Gh) (x1 : Int32) (x2 : Int32) (x3 : Int32) (x4 : Int32) (M : Mem) : Mt G mi_X12_tell [.ref (G.2.2.2 (0)), .int x1, .int x2, .int x3, .int x4] M ((dO dIM) (X12_tell x1 x2 x3 x4 M)) := by
  refine Mt_of (lv := [some (.ref (G.2.2.2 (0))), some (.int x1), some (.int x2), some (.int x3), some (.int x4)]) (by decide) rfl (Nat.le_of_ble_eq_true rfl) rfl ?_
  unfold X12_tell
  refine r_aload_n dX12_tell_0 rfl ?_
  refine r_getf (v := .ref (G.2.2.2 (45))) dX12_tell_1 fM_0_70 kX12 (by decide) lkf_X12_149 rfl ?_
  refine r_aload_n dX12_tell_4 rfl ?_
  refine r_getf (v := .int (M.1 0 78)) dX12_tell_5 fM_0_78 kX12 (by decide) lkf_X12_411 rfl ?_
  refine r_iload_n dX12_tell_8 rfl ?_
  refine r_gd rfl (fun g1 => ?_)
  refine r_iast dX12_tell_9 aM_45 (inb_in g1) rfl (fun M2 => ?_)
  refine r_aload_n dX12_tell_10 rfl ?_
  refine r_getf (v := .ref (G.2.2.2 (46))) dX12_tell_11 fM_0_71 kX12 (by decide) lkf_X12_152 rfl ?_
  refine r_aload_n dX12_tell_14 rfl ?_
  refine r_getf (v := .int (M2.1 0 78)) dX12_tell_15 fM_0_78 kX12 (by decide) lkf_X12_411 rfl ?_
  refine r_iload_n dX12_tell_18 rfl ?_
  refine r_gd rfl (fun g3 => ?_)
  refine r_iast dX12_tell_19 aM_46 (inb_in g3) rfl (fun M4 => ?_)
  refine r_aload_n dX12_tell_20 rfl ?_
  refine r_getf (v := .ref (G.2.2.2 (47))) dX12_tell_21 fM_0_72 kX12 (by decide) lkf_X12_155 rfl ?_
  refine r_aload_n dX12_tell_24 rfl ?_
  refine r_getf (v := .int (M4.1 0 78)) dX12_tell_25 fM_0_78 kX12 (by decide) lkf_X12_411 rfl ?_
  refine r_iload_n dX12_tell_28 rfl ?_
  refine r_gd rfl (fun g5 => ?_)
  refine r_iast dX12_tell_29 aM_47 (inb_in g5) rfl (fun M6 => ?_)
  refine r_aload_n dX12_tell_30 rfl ?_
  refine r_getf (v := .ref (G.2.2.2 (48))) dX12_tell_31 fM_0_73 kX12 (by decide) lkf_X12_158 rfl ?_
  refine r_aload_n dX12_tell_34 rfl ?_
  refine r_getf (v := .int (M6.1 0 78)) dX12_tell_35 fM_0_78 kX12 (by decide) lkf_X12_411 rfl ?_
  refine r_iload dX12_tell_38 rfl ?_
  refine r_jL1 (j := 48) (lvj := fun y8 => [some (.ref (G.2.2.2 (0))), none, none, none, none]) (stj := fun y8 => [.int y8, .int (M6.1 0 78), .ref (G.2.2.2 (48))]) (Mj := fun y8 => M6) (fun y8 => ?_) (fun hj48 => ?_)
  · refine r_gd rfl (fun g9 => ?_)
    refine r_iast dX12_tell_48 aM_48 (inb_in g9) rfl (fun M10 => ?_)
    refine r_aload_n dX12_tell_49 rfl ?_
    refine r_getf (v := .ref (G.2.2.2 (49))) dX12_tell_50 fM_0_74 kX12 (by decide) lkf_X12_161 rfl ?_
    refine r_aload_n dX12_tell_53 rfl ?_
    refine r_getf (v := .int (M10.1 0 78)) dX12_tell_54 fM_0_78 kX12 (by decide) lkf_X12_411 rfl ?_
    refine r_aload_n dX12_tell_57 rfl ?_
    refine r_getf (v := .int (M10.1 0 79)) dX12_tell_58 fM_0_79 kX12 (by decide) lkf_X12_555 rfl ?_
    refine r_gd rfl (fun g11 => ?_)
    refine r_iast dX12_tell_61 aM_49 (inb_in g11) rfl (fun M12 => ?_)
    refine r_aload_n dX12_tell_62 rfl ?_
    refine r_getf (v := .ref (G.2.2.2 (50))) dX12_tell_63 fM_0_75 kX12 (by decide) lkf_X12_164 rfl ?_
    refine r_aload_n dX12_tell_66 rfl ?_
    refine r_getf (v := .int (M12.1 0 78)) dX12_tell_67 fM_0_78 kX12 (by decide) lkf_X12_411 rfl ?_
    refine r_iconst (x := (-1)) dX12_tell_70 rfl ?_
    refine r_gd rfl (fun g13 => ?_)
    refine r_iast dX12_tell_71 aM_50 (inb_in g13) rfl (fun M14 => ?_)
    refine r_aload_n dX12_tell_72 rfl ?_
    refine r_dup dX12_tell_73 rfl ?_
    refine r_getf (v := .int (M14.1 0 78)) dX12_tell_74 fM_0_78 kX12 (by decide) lkf_X12_411 rfl ?_
    refine r_iconst (x := 1) dX12_tell_77 rfl ?_
    refine r_iadd dX12_tell_78 ?_
    refine r_putI dX12_tell_79 fM_0_78 kX12 (by decide) rfl rfl lkf_X12_411 (fun _ => rfl) rfl rfl (fun M15 => ?_)
    refine r_aload_n dX12_tell_82 rfl ?_
    refine r_getf (v := .int (M15.1 0 78)) dX12_tell_83 fM_0_78 kX12 (by decide) lkf_X12_411 rfl ?_
    refine r_iconst (x := 1) dX12_tell_86 rfl ?_
    refine r_isub dX12_tell_87 ?_
    exact r_iret (ty := .int) dX12_tell_88 rfl rfl rfl
  refine r_if_eq (tgt := 47) dX12_tell_40 rfl (fun h7 => ?_) (fun h7 => ?_)
  · refine r_iconst (x := 0) dX12_tell_47 rfl ?_
    exact r_lk (hj48 0) (And.intro rfl True.intro)
  refine r_iconst (x := 1) dX12_tell_43 rfl ?_
  refine r_goto (tgt := 48) dX12_tell_44 rfl ?_
  exact r_lk (hj48 1) (And.intro rfl True.intro)

theorem dX12_least_0 : decode cX12_least 0 = .ok (.aload_n 0, 1) := by decide +kernel
theorem dX12_least_1 : decode cX12_least 1 = .ok (.iload_n 1, 1) := by decide +kernel
theorem dX12_least_2 : decode cX12_least 2 = .ok (.invokevirtual 558, 3) := by decide +kernel
theorem dX12_least_5 : decode cX12_least 5 = .ok (.ifCond .eq 33, 3) := by decide +kernel
theorem dX12_least_8 : decode cX12_least 8 = .ok (.iload_n 2, 1) := by decide +kernel
theorem dX12_least_9 : decode cX12_least 9 = .ok (.iconst 0, 1) := by decide +kernel
theorem dX12_least_10 : decode cX12_least 10 = .ok (.bipush 99, 2) := by decide +kernel
theorem dX12_least_12 : decode cX12_least 12 = .ok (.invokestatic 401, 3) := by decide +kernel
theorem dX12_least_15 : decode cX12_least 15 = .ok (.ifCond .eq 23, 3) := by decide +kernel
theorem dX12_least_18 : decode cX12_least 18 = .ok (.aload_n 0, 1) := by decide +kernel
theorem dX12_least_19 : decode cX12_least 19 = .ok (.getfield 411, 3) := by decide +kernel
theorem dX12_least_22 : decode cX12_least 22 = .ok (.bipush 30, 2) := by decide +kernel
theorem dX12_least_24 : decode cX12_least 24 = .ok (.if_icmp .ge 14, 3) := by decide +kernel
theorem dX12_least_27 : decode cX12_least 27 = .ok (.aload_n 0, 1) := by decide +kernel
theorem dX12_least_28 : decode cX12_least 28 = .ok (.iload_n 1, 1) := by decide +kernel
theorem dX12_least_29 : decode cX12_least 29 = .ok (.iconst (-1), 1) := by decide +kernel
theorem dX12_least_30 : decode cX12_least 30 = .ok (.iload_n 2, 1) := by decide +kernel
theorem dX12_least_31 : decode cX12_least 31 = .ok (.iload_n 3, 1) := by decide +kernel
theorem dX12_least_32 : decode cX12_least 32 = .ok (.invokevirtual 561, 3) := by decide +kernel
theorem dX12_least_35 : decode cX12_least 35 = .ok (.goto 4, 3) := by decide +kernel
theorem dX12_least_38 : decode cX12_least 38 = .ok (.iconst (-1), 1) := by decide +kernel
theorem dX12_least_39 : decode cX12_least 39 = .ok (.ireturn, 1) := by decide +kernel
abbrev mi_X12_least : MI := (zTM, RX12, yX12_least, cX12_least, 4, (some .int), 5)
theorem cal_X12_least : zCalV mi_X12_least 3 := ⟨⟨zTB_i9 63 (by decide +kernel), zTB_i9 61 (by decide +kernel), zTB_i9 62 (by decide +kernel), zTB_i1 13 (by decide +kernel)⟩, ⟨by decide, by decide, by decide +kernel⟩, by decide⟩
noncomputable def X12_least (x1 : Int32) (x2 : Int32) (x3 : Int32) (M : Mem) : Option (Int32 × Mem) :=
  bo_ (X12_isFirst x1 M) fun b1 =>
  if b1 = true then
    if (X12_isIn x2 0 99) = true then
      if 30 ≤ (M.1 0 78) then
        some ((-1), M)
      else
      bp_ (X12_tell x1 (-1) x2 x3 M) fun v5 M6 =>
      some (v5, M6)
    else
    some ((-1), M)
  else
  some ((-1), M)
set_option maxRecDepth 100000 in
set_option maxHeartbeats 4000000 in
theorem X12_least_ok (G : Gh) (x1 : Int32) (x2 : Int32) (x3 : Int32) (M : Mem) : Mt G mi_X12_least [.ref (G.2.2.2 (0)), .int x1, .int x2, .int x3] M ((dO dIM) (X12_least x1 x2 x3 M)) := by
  refine Mt_of (lv := [some (.ref (G.2.2.2 (0))), some (.int x1), some (.int x2), some (.int x3)]) (by decide) rfl (Nat.le_of_ble_eq_true rfl) rfl ?_
  unfold X12_least
  refine r_aload_n dX12_least_0 rfl ?_
  refine r_iload_n dX12_least_1 rfl ?_
  refine c_OZ rfl (inv_V (mi := mi_X12_least) (b := 0) (rest := []) (X12_isFirst_ok G x1 M) rfl (by decide) dX12_least_2 lkm_X12_558 cal_X12_isFirst cM_0 rfl rfl (Nat.le_of_ble_eq_true rfl) rfl) (fun b1 => ?_)
  refine r_ifz_eq (tgt := 38) dX12_least_5 rfl (fun h2 => ?_) (fun h2 => ?_)
  · refine r_iload_n dX12_least_8 rfl ?_
    refine r_iconst (x := 0) dX12_least_9 rfl ?_
    refine r_bipush (x := 99) dX12_least_10 rfl ?_
    refine c_Z (inv_S (mi := mi_X12_least) (rest := []) (X12_isIn_ok G x2 0 99 M) rfl (by decide) dX12_least_12 lkm_X12_401 cal_X12_isIn rfl (Nat.le_of_ble_eq_true rfl) rfl) ?_
    refine r_ifz_eq (tgt := 38) dX12_least_15 rfl (fun h3 => ?_) (fun h3 => ?_)
    · refine r_aload_n dX12_least_18 rfl ?_
      refine r_getf (v := .int (M.1 0 78)) dX12_least_19 fM_0_78 kX12 (by decide) lkf_X12_411 rfl ?_
      refine r_bipush (x := 30) dX12_least_22 rfl ?_
      refine r_icmp_ge (tgt := 38) dX12_least_24 rfl (fun h4 => ?_) (fun h4 => ?_)
      · refine r_iconst (x := (-1)) dX12_least_38 rfl ?_
        exact r_iret (ty := .int) dX12_least_39 rfl rfl rfl
      refine r_aload_n dX12_least_27 rfl ?_
      refine r_iload_n dX12_least_28 rfl ?_
      refine r_iconst (x := (-1)) dX12_least_29 rfl ?_
      refine r_iload_n dX12_least_30 rfl ?_
      refine r_iload_n dX12_least_31 rfl ?_
      refine c_OIM rfl (inv_V (mi := mi_X12_least) (b := 0) (rest := []) (X12_tell_ok G x1 (-1) x2 x3 M) rfl (by decide) dX12_least_32 lkm_X12_561 cal_X12_tell cM_0 rfl rfl (Nat.le_of_ble_eq_true rfl) rfl) (fun v5 M6 => ?_)
      refine r_goto (tgt := 39) dX12_least_35 rfl ?_
      exact r_iret (ty := .int) dX12_least_39 rfl rfl rfl
    refine r_iconst (x := (-1)) dX12_least_38 rfl ?_
    exact r_iret (ty := .int) dX12_least_39 rfl rfl rfl
  refine r_iconst (x := (-1)) dX12_least_38 rfl ?_
  exact r_iret (ty := .int) dX12_least_39 rfl rfl rfl

theorem dX12_more_0 : decode cX12_more 0 = .ok (.aload_n 0, 1) := by decide +kernel
theorem dX12_more_1 : decode cX12_more 1 = .ok (.iload_n 1, 1) := by decide +kernel
theorem dX12_more_2 : decode cX12_more 2 = .ok (.invokevirtual 558, 3) := by decide +kernel
theorem dX12_more_5 : decode cX12_more 5 = .ok (.ifCond .eq 36, 3) := by decide +kernel
theorem dX12_more_8 : decode cX12_more 8 = .ok (.aload_n 0, 1) := by decide +kernel
theorem dX12_more_9 : decode cX12_more 9 = .ok (.iload_n 2, 1) := by decide +kernel
theorem dX12_more_10 : decode cX12_more 10 = .ok (.invokevirtual 558, 3) := by decide +kernel
theorem dX12_more_13 : decode cX12_more 13 = .ok (.ifCond .eq 28, 3) := by decide +kernel
theorem dX12_more_16 : decode cX12_more 16 = .ok (.iload_n 1, 1) := by decide +kernel
theorem dX12_more_17 : decode cX12_more 17 = .ok (.iload_n 2, 1) := by decide +kernel
theorem dX12_more_18 : decode cX12_more 18 = .ok (.if_icmp .eq 23, 3) := by decide +kernel
theorem dX12_more_21 : decode cX12_more 21 = .ok (.aload_n 0, 1) := by decide +kernel
theorem dX12_more_22 : decode cX12_more 22 = .ok (.getfield 411, 3) := by decide +kernel
theorem dX12_more_25 : decode cX12_more 25 = .ok (.bipush 30, 2) := by decide +kernel
theorem dX12_more_27 : decode cX12_more 27 = .ok (.if_icmp .ge 14, 3) := by decide +kernel
theorem dX12_more_30 : decode cX12_more 30 = .ok (.aload_n 0, 1) := by decide +kernel
theorem dX12_more_31 : decode cX12_more 31 = .ok (.iload_n 1, 1) := by decide +kernel
theorem dX12_more_32 : decode cX12_more 32 = .ok (.iload_n 2, 1) := by decide +kernel
theorem dX12_more_33 : decode cX12_more 33 = .ok (.iconst 0, 1) := by decide +kernel
theorem dX12_more_34 : decode cX12_more 34 = .ok (.iload_n 3, 1) := by decide +kernel
theorem dX12_more_35 : decode cX12_more 35 = .ok (.invokevirtual 561, 3) := by decide +kernel
theorem dX12_more_38 : decode cX12_more 38 = .ok (.goto 4, 3) := by decide +kernel
theorem dX12_more_41 : decode cX12_more 41 = .ok (.iconst (-1), 1) := by decide +kernel
theorem dX12_more_42 : decode cX12_more 42 = .ok (.ireturn, 1) := by decide +kernel
abbrev mi_X12_more : MI := (zTM, RX12, yX12_more, cX12_more, 4, (some .int), 5)
theorem cal_X12_more : zCalV mi_X12_more 3 := ⟨⟨zTB_i9 79 (by decide +kernel), zTB_i9 77 (by decide +kernel), zTB_i9 78 (by decide +kernel), zTB_i1 13 (by decide +kernel)⟩, ⟨by decide, by decide, by decide +kernel⟩, by decide⟩
noncomputable def X12_more (x1 : Int32) (x2 : Int32) (x3 : Int32) (M : Mem) : Option (Int32 × Mem) :=
  bo_ (X12_isFirst x1 M) fun b1 =>
  if b1 = true then
    bo_ (X12_isFirst x2 M) fun b3 =>
    if b3 = true then
      if x1 = x2 then
        some ((-1), M)
      else
      if 30 ≤ (M.1 0 78) then
        some ((-1), M)
      else
      bp_ (X12_tell x1 x2 0 x3 M) fun v7 M8 =>
      some (v7, M8)
    else
    some ((-1), M)
  else
  some ((-1), M)
set_option maxRecDepth 100000 in
set_option maxHeartbeats 4000000 in
theorem X12_more_ok (G : Gh) (x1 : Int32) (x2 : Int32) (x3 : Int32) (M : Mem) : Mt G mi_X12_more [.ref (G.2.2.2 (0)), .int x1, .int x2, .int x3] M ((dO dIM) (X12_more x1 x2 x3 M)) := by
  refine Mt_of (lv := [some (.ref (G.2.2.2 (0))), some (.int x1), some (.int x2), some (.int x3)]) (by decide) rfl (Nat.le_of_ble_eq_true rfl) rfl ?_
  unfold X12_more
  refine r_aload_n dX12_more_0 rfl ?_
  refine r_iload_n dX12_more_1 rfl ?_
  refine c_OZ rfl (inv_V (mi := mi_X12_more) (b := 0) (rest := []) (X12_isFirst_ok G x1 M) rfl (by decide) dX12_more_2 lkm_X12_558 cal_X12_isFirst cM_0 rfl rfl (Nat.le_of_ble_eq_true rfl) rfl) (fun b1 => ?_)
  refine r_ifz_eq (tgt := 41) dX12_more_5 rfl (fun h2 => ?_) (fun h2 => ?_)
  · refine r_aload_n dX12_more_8 rfl ?_
    refine r_iload_n dX12_more_9 rfl ?_
    refine c_OZ rfl (inv_V (mi := mi_X12_more) (b := 0) (rest := []) (X12_isFirst_ok G x2 M) rfl (by decide) dX12_more_10 lkm_X12_558 cal_X12_isFirst cM_0 rfl rfl (Nat.le_of_ble_eq_true rfl) rfl) (fun b3 => ?_)
    refine r_ifz_eq (tgt := 41) dX12_more_13 rfl (fun h4 => ?_) (fun h4 => ?_)
    · refine r_iload_n dX12_more_16 rfl ?_
      refine r_iload_n dX12_more_17 rfl ?_
      refine r_icmp_eq (tgt := 41) dX12_more_18 rfl (fun h5 => ?_) (fun h5 => ?_)
      · refine r_iconst (x := (-1)) dX12_more_41 rfl ?_
        exact r_iret (ty := .int) dX12_more_42 rfl rfl rfl
      refine r_aload_n dX12_more_21 rfl ?_
      refine r_getf (v := .int (M.1 0 78)) dX12_more_22 fM_0_78 kX12 (by decide) lkf_X12_411 rfl ?_
      refine r_bipush (x := 30) dX12_more_25 rfl ?_
      refine r_icmp_ge (tgt := 41) dX12_more_27 rfl (fun h6 => ?_) (fun h6 => ?_)
      · refine r_iconst (x := (-1)) dX12_more_41 rfl ?_
        exact r_iret (ty := .int) dX12_more_42 rfl rfl rfl
      refine r_aload_n dX12_more_30 rfl ?_
      refine r_iload_n dX12_more_31 rfl ?_
      refine r_iload_n dX12_more_32 rfl ?_
      refine r_iconst (x := 0) dX12_more_33 rfl ?_
      refine r_iload_n dX12_more_34 rfl ?_
      refine c_OIM rfl (inv_V (mi := mi_X12_more) (b := 0) (rest := []) (X12_tell_ok G x1 x2 0 x3 M) rfl (by decide) dX12_more_35 lkm_X12_561 cal_X12_tell cM_0 rfl rfl (Nat.le_of_ble_eq_true rfl) rfl) (fun v7 M8 => ?_)
      refine r_goto (tgt := 42) dX12_more_38 rfl ?_
      exact r_iret (ty := .int) dX12_more_42 rfl rfl rfl
    refine r_iconst (x := (-1)) dX12_more_41 rfl ?_
    exact r_iret (ty := .int) dX12_more_42 rfl rfl rfl
  refine r_iconst (x := (-1)) dX12_more_41 rfl ?_
  exact r_iret (ty := .int) dX12_more_42 rfl rfl rfl

theorem dX12_untell_0 : decode cX12_untell 0 = .ok (.iload_n 1, 1) := by decide +kernel
theorem dX12_untell_1 : decode cX12_untell 1 = .ok (.iconst 0, 1) := by decide +kernel
theorem dX12_untell_2 : decode cX12_untell 2 = .ok (.aload_n 0, 1) := by decide +kernel
theorem dX12_untell_3 : decode cX12_untell 3 = .ok (.getfield 411, 3) := by decide +kernel
theorem dX12_untell_6 : decode cX12_untell 6 = .ok (.iconst 1, 1) := by decide +kernel
theorem dX12_untell_7 : decode cX12_untell 7 = .ok (.isub, 1) := by decide +kernel
theorem dX12_untell_8 : decode cX12_untell 8 = .ok (.invokestatic 401, 3) := by decide +kernel
theorem dX12_untell_11 : decode cX12_untell 11 = .ok (.ifCond .eq 12, 3) := by decide +kernel
theorem dX12_untell_14 : decode cX12_untell 14 = .ok (.aload_n 0, 1) := by decide +kernel
theorem dX12_untell_15 : decode cX12_untell 15 = .ok (.getfield 164, 3) := by decide +kernel
theorem dX12_untell_18 : decode cX12_untell 18 = .ok (.iload_n 1, 1) := by decide +kernel
theorem dX12_untell_19 : decode cX12_untell 19 = .ok (.iaload, 1) := by decide +kernel
theorem dX12_untell_20 : decode cX12_untell 20 = .ok (.ifCond .lt 5, 3) := by decide +kernel
theorem dX12_untell_23 : decode cX12_untell 23 = .ok (.iconst 0, 1) := by decide +kernel
theorem dX12_untell_24 : decode cX12_untell 24 = .ok (.ireturn, 1) := by decide +kernel
theorem dX12_untell_25 : decode cX12_untell 25 = .ok (.aload_n 0, 1) := by decide +kernel
theorem dX12_untell_26 : decode cX12_untell 26 = .ok (.getfield 164, 3) := by decide +kernel
theorem dX12_untell_29 : decode cX12_untell 29 = .ok (.iload_n 1, 1) := by decide +kernel
theorem dX12_untell_30 : decode cX12_untell 30 = .ok (.aload_n 0, 1) := by decide +kernel
theorem dX12_untell_31 : decode cX12_untell 31 = .ok (.getfield 555, 3) := by decide +kernel
theorem dX12_untell_34 : decode cX12_untell 34 = .ok (.iastore, 1) := by decide +kernel
theorem dX12_untell_35 : decode cX12_untell 35 = .ok (.iconst 1, 1) := by decide +kernel
theorem dX12_untell_36 : decode cX12_untell 36 = .ok (.ireturn, 1) := by decide +kernel
abbrev mi_X12_untell : MI := (zTM, RX12, yX12_untell, cX12_untell, 2, (some .boolean), 3)
theorem cal_X12_untell : zCalV mi_X12_untell 1 := ⟨⟨zTB_i9 83 (by decide +kernel), zTB_i9 81 (by decide +kernel), zTB_i9 82 (by decide +kernel), zTB_i1 13 (by decide +kernel)⟩, ⟨by decide, by decide, by decide +kernel⟩, by decide⟩
noncomputable def X12_untell (x1 : Int32) (M : Mem) : Option (Bool × Mem) :=
  if (X12_isIn x1 0 ((M.1 0 78) - 1)) = true then
    gd_ (inb x1 (30) = true) (
    if (M.1 50 x1.toNatClampNeg) < 0 then
      lt_ (uI M 50 x1.toNatClampNeg (M.1 0 79)) fun M4 =>
      some (true, M4)
    else
    some (false, M))
  else
  some (false, M)
set_option maxRecDepth 100000 in
set_option maxHeartbeats 4000000 in
theorem X12_untell_ok (G : Gh) (x1 : Int32) (M : Mem) : Mt G mi_X12_untell [.ref (G.2.2.2 (0)), .int x1] M ((dO dZM) (X12_untell x1 M)) := by
  refine Mt_of (lv := [some (.ref (G.2.2.2 (0))), some (.int x1)]) (by decide) rfl (Nat.le_of_ble_eq_true rfl) rfl ?_
  unfold X12_untell
  refine r_iload_n dX12_untell_0 rfl ?_
  refine r_iconst (x := 0) dX12_untell_1 rfl ?_
  refine r_aload_n dX12_untell_2 rfl ?_
  refine r_getf (v := .int (M.1 0 78)) dX12_untell_3 fM_0_78 kX12 (by decide) lkf_X12_411 rfl ?_
  refine r_iconst (x := 1) dX12_untell_6 rfl ?_
  refine r_isub dX12_untell_7 ?_
  refine c_Z (inv_S (mi := mi_X12_untell) (rest := []) (X12_isIn_ok G x1 0 ((M.1 0 78) - 1) M) rfl (by decide) dX12_untell_8 lkm_X12_401 cal_X12_isIn rfl (Nat.le_of_ble_eq_true rfl) rfl) ?_
  refine r_ifz_eq (tgt := 23) dX12_untell_11 rfl (fun h1 => ?_) (fun h1 => ?_)
  · refine r_aload_n dX12_untell_14 rfl ?_
    refine r_getf (v := .ref (G.2.2.2 (50))) dX12_untell_15 fM_0_75 kX12 (by decide) lkf_X12_164 rfl ?_
    refine r_iload_n dX12_untell_18 rfl ?_
    refine r_gd rfl (fun g2 => ?_)
    refine r_iald dX12_untell_19 aM_50 (inb_in g2) rfl ?_
    refine r_if_lt (tgt := 25) dX12_untell_20 rfl (fun h3 => ?_) (fun h3 => ?_)
    · refine r_aload_n dX12_untell_25 rfl ?_
      refine r_getf (v := .ref (G.2.2.2 (50))) dX12_untell_26 fM_0_75 kX12 (by decide) lkf_X12_164 rfl ?_
      refine r_iload_n dX12_untell_29 rfl ?_
      refine r_aload_n dX12_untell_30 rfl ?_
      refine r_getf (v := .int (M.1 0 79)) dX12_untell_31 fM_0_79 kX12 (by decide) lkf_X12_555 rfl ?_
      refine r_iast dX12_untell_34 aM_50 (inb_in g2) rfl (fun M4 => ?_)
      refine r_iconst (x := 1) dX12_untell_35 rfl ?_
      exact r_iret (ty := .boolean) dX12_untell_36 rfl rfl rfl
    refine r_iconst (x := 0) dX12_untell_23 rfl ?_
    exact r_iret (ty := .boolean) dX12_untell_24 rfl rfl rfl
  refine r_iconst (x := 0) dX12_untell_23 rfl ?_
  exact r_iret (ty := .boolean) dX12_untell_24 rfl rfl rfl

theorem dX12_later_0 : decode cX12_later 0 = .ok (.iload_n 1, 1) := by decide +kernel
theorem dX12_later_1 : decode cX12_later 1 = .ok (.iconst 0, 1) := by decide +kernel
theorem dX12_later_2 : decode cX12_later 2 = .ok (.sipush 1000, 3) := by decide +kernel
theorem dX12_later_5 : decode cX12_later 5 = .ok (.invokestatic 401, 3) := by decide +kernel
theorem dX12_later_8 : decode cX12_later 8 = .ok (.ifCond .eq 15, 3) := by decide +kernel
theorem dX12_later_11 : decode cX12_later 11 = .ok (.aload_n 0, 1) := by decide +kernel
theorem dX12_later_12 : decode cX12_later 12 = .ok (.getfield 555, 3) := by decide +kernel
theorem dX12_later_15 : decode cX12_later 15 = .ok (.iload_n 1, 1) := by decide +kernel
theorem dX12_later_16 : decode cX12_later 16 = .ok (.iadd, 1) := by decide +kernel
theorem dX12_later_17 : decode cX12_later 17 = .ok (.ldc_w 565, 3) := by decide +kernel
theorem dX12_later_20 : decode cX12_later 20 = .ok (.if_icmp .le 5, 3) := by decide +kernel
theorem dX12_later_23 : decode cX12_later 23 = .ok (.iconst (-1), 1) := by decide +kernel
theorem dX12_later_24 : decode cX12_later 24 = .ok (.ireturn, 1) := by decide +kernel
theorem dX12_later_25 : decode cX12_later 25 = .ok (.aload_n 0, 1) := by decide +kernel
theorem dX12_later_26 : decode cX12_later 26 = .ok (.dup, 1) := by decide +kernel
theorem dX12_later_27 : decode cX12_later 27 = .ok (.getfield 555, 3) := by decide +kernel
theorem dX12_later_30 : decode cX12_later 30 = .ok (.iload_n 1, 1) := by decide +kernel
theorem dX12_later_31 : decode cX12_later 31 = .ok (.iadd, 1) := by decide +kernel
theorem dX12_later_32 : decode cX12_later 32 = .ok (.putfield 555, 3) := by decide +kernel
theorem dX12_later_35 : decode cX12_later 35 = .ok (.aload_n 0, 1) := by decide +kernel
theorem dX12_later_36 : decode cX12_later 36 = .ok (.getfield 555, 3) := by decide +kernel
theorem dX12_later_39 : decode cX12_later 39 = .ok (.ireturn, 1) := by decide +kernel
abbrev mi_X12_later : MI := (zTM, RX12, yX12_later, cX12_later, 2, (some .int), 3)
theorem cal_X12_later : zCalV mi_X12_later 1 := ⟨⟨zTB_i9 87 (by decide +kernel), zTB_i9 85 (by decide +kernel), zTB_i9 86 (by decide +kernel), zTB_i1 13 (by decide +kernel)⟩, ⟨by decide, by decide, by decide +kernel⟩, by decide⟩
noncomputable def X12_later (x1 : Int32) (M : Mem) : Int32 × Mem :=
  if (X12_isIn x1 0 1000) = true then
    if ((M.1 0 79) + x1) ≤ 100000 then
      lt_ (uI M 0 79 ((M.1 0 79) + x1)) fun M3 =>
      (M3.1 0 79, M3)
    else
    ((-1), M)
  else
  ((-1), M)
set_option maxRecDepth 100000 in
set_option maxHeartbeats 4000000 in
theorem X12_later_ok (G : Gh) (x1 : Int32) (M : Mem) : Mt G mi_X12_later [.ref (G.2.2.2 (0)), .int x1] M (dIM (X12_later x1 M)) := by
  refine Mt_of (lv := [some (.ref (G.2.2.2 (0))), some (.int x1)]) (by decide) rfl (Nat.le_of_ble_eq_true rfl) rfl ?_
  unfold X12_later
  refine r_iload_n dX12_later_0 rfl ?_
  refine r_iconst (x := 0) dX12_later_1 rfl ?_
  refine r_sipush (x := 1000) dX12_later_2 rfl ?_
  refine c_Z (inv_S (mi := mi_X12_later) (rest := []) (X12_isIn_ok G x1 0 1000 M) rfl (by decide) dX12_later_5 lkm_X12_401 cal_X12_isIn rfl (Nat.le_of_ble_eq_true rfl) rfl) ?_
  refine r_ifz_eq (tgt := 23) dX12_later_8 rfl (fun h1 => ?_) (fun h1 => ?_)
  · refine r_aload_n dX12_later_11 rfl ?_
    refine r_getf (v := .int (M.1 0 79)) dX12_later_12 fM_0_79 kX12 (by decide) lkf_X12_555 rfl ?_
    refine r_iload_n dX12_later_15 rfl ?_
    refine r_iadd dX12_later_16 ?_
    refine r_ldcwI (x := 100000) dX12_later_17 lkc_X12_565 ?_
    refine r_icmp_le (tgt := 25) dX12_later_20 rfl (fun h2 => ?_) (fun h2 => ?_)
    · refine r_aload_n dX12_later_25 rfl ?_
      refine r_dup dX12_later_26 rfl ?_
      refine r_getf (v := .int (M.1 0 79)) dX12_later_27 fM_0_79 kX12 (by decide) lkf_X12_555 rfl ?_
      refine r_iload_n dX12_later_30 rfl ?_
      refine r_iadd dX12_later_31 ?_
      refine r_putI dX12_later_32 fM_0_79 kX12 (by decide) rfl rfl lkf_X12_555 (fun _ => rfl) rfl rfl (fun M3 => ?_)
      refine r_aload_n dX12_later_35 rfl ?_
      refine r_getf (v := .int (M3.1 0 79)) dX12_later_36 fM_0_79 kX12 (by decide) lkf_X12_555 rfl ?_
      exact r_iret (ty := .int) dX12_later_39 rfl rfl rfl
    refine r_iconst (x := (-1)) dX12_later_23 rfl ?_
    exact r_iret (ty := .int) dX12_later_24 rfl rfl rfl
  refine r_iconst (x := (-1)) dX12_later_23 rfl ?_
  exact r_iret (ty := .int) dX12_later_24 rfl rfl rfl

theorem dX12_layOrder_0 : decode cX12_layOrder 0 = .ok (.iload_n 1, 1) := by decide +kernel
theorem dX12_layOrder_1 : decode cX12_layOrder 1 = .ok (.istore_n 2, 1) := by decide +kernel
theorem dX12_layOrder_2 : decode cX12_layOrder 2 = .ok (.iconst 0, 1) := by decide +kernel
theorem dX12_layOrder_3 : decode cX12_layOrder 3 = .ok (.istore_n 3, 1) := by decide +kernel
theorem dX12_layOrder_4 : decode cX12_layOrder 4 = .ok (.iconst 0, 1) := by decide +kernel
theorem dX12_layOrder_5 : decode cX12_layOrder 5 = .ok (.istore 4, 2) := by decide +kernel
theorem dX12_layOrder_7 : decode cX12_layOrder 7 = .ok (.iload 4, 2) := by decide +kernel
theorem dX12_layOrder_9 : decode cX12_layOrder 9 = .ok (.aload_n 0, 1) := by decide +kernel
theorem dX12_layOrder_10 : decode cX12_layOrder 10 = .ok (.invokevirtual 552, 3) := by decide +kernel
theorem dX12_layOrder_13 : decode cX12_layOrder 13 = .ok (.if_icmp .ge 57, 3) := by decide +kernel
theorem dX12_layOrder_16 : decode cX12_layOrder 16 = .ok (.aload_n 0, 1) := by decide +kernel
theorem dX12_layOrder_17 : decode cX12_layOrder 17 = .ok (.getfield 167, 3) := by decide +kernel
theorem dX12_layOrder_20 : decode cX12_layOrder 20 = .ok (.iload 4, 2) := by decide +kernel
theorem dX12_layOrder_22 : decode cX12_layOrder 22 = .ok (.iload_n 2, 1) := by decide +kernel
theorem dX12_layOrder_23 : decode cX12_layOrder 23 = .ok (.aload_n 0, 1) := by decide +kernel
theorem dX12_layOrder_24 : decode cX12_layOrder 24 = .ok (.invokevirtual 552, 3) := by decide +kernel
theorem dX12_layOrder_27 : decode cX12_layOrder 27 = .ok (.irem, 1) := by decide +kernel
theorem dX12_layOrder_28 : decode cX12_layOrder 28 = .ok (.iastore, 1) := by decide +kernel
theorem dX12_layOrder_29 : decode cX12_layOrder 29 = .ok (.iload_n 2, 1) := by decide +kernel
theorem dX12_layOrder_30 : decode cX12_layOrder 30 = .ok (.aload_n 0, 1) := by decide +kernel
theorem dX12_layOrder_31 : decode cX12_layOrder 31 = .ok (.invokevirtual 552, 3) := by decide +kernel
theorem dX12_layOrder_34 : decode cX12_layOrder 34 = .ok (.idiv, 1) := by decide +kernel
theorem dX12_layOrder_35 : decode cX12_layOrder 35 = .ok (.istore_n 2, 1) := by decide +kernel
theorem dX12_layOrder_36 : decode cX12_layOrder 36 = .ok (.iload_n 3, 1) := by decide +kernel
theorem dX12_layOrder_37 : decode cX12_layOrder 37 = .ok (.aload_n 0, 1) := by decide +kernel
theorem dX12_layOrder_38 : decode cX12_layOrder 38 = .ok (.getfield 167, 3) := by decide +kernel
theorem dX12_layOrder_41 : decode cX12_layOrder 41 = .ok (.iload 4, 2) := by decide +kernel
theorem dX12_layOrder_43 : decode cX12_layOrder 43 = .ok (.iaload, 1) := by decide +kernel
theorem dX12_layOrder_44 : decode cX12_layOrder 44 = .ok (.invokestatic 459, 3) := by decide +kernel
theorem dX12_layOrder_47 : decode cX12_layOrder 47 = .ok (.ifCond .eq 5, 3) := by decide +kernel
theorem dX12_layOrder_50 : decode cX12_layOrder 50 = .ok (.iconst 0, 1) := by decide +kernel
theorem dX12_layOrder_51 : decode cX12_layOrder 51 = .ok (.ireturn, 1) := by decide +kernel
theorem dX12_layOrder_52 : decode cX12_layOrder 52 = .ok (.iload_n 3, 1) := by decide +kernel
theorem dX12_layOrder_53 : decode cX12_layOrder 53 = .ok (.iconst 1, 1) := by decide +kernel
theorem dX12_layOrder_54 : decode cX12_layOrder 54 = .ok (.aload_n 0, 1) := by decide +kernel
theorem dX12_layOrder_55 : decode cX12_layOrder 55 = .ok (.getfield 167, 3) := by decide +kernel
theorem dX12_layOrder_58 : decode cX12_layOrder 58 = .ok (.iload 4, 2) := by decide +kernel
theorem dX12_layOrder_60 : decode cX12_layOrder 60 = .ok (.iaload, 1) := by decide +kernel
theorem dX12_layOrder_61 : decode cX12_layOrder 61 = .ok (.ishl, 1) := by decide +kernel
theorem dX12_layOrder_62 : decode cX12_layOrder 62 = .ok (.ior, 1) := by decide +kernel
theorem dX12_layOrder_63 : decode cX12_layOrder 63 = .ok (.istore_n 3, 1) := by decide +kernel
theorem dX12_layOrder_64 : decode cX12_layOrder 64 = .ok (.iinc 4 1, 3) := by decide +kernel
theorem dX12_layOrder_67 : decode cX12_layOrder 67 = .ok (.goto (-60), 3) := by decide +kernel
theorem dX12_layOrder_70 : decode cX12_layOrder 70 = .ok (.iconst 1, 1) := by decide +kernel
theorem dX12_layOrder_71 : decode cX12_layOrder 71 = .ok (.ireturn, 1) := by decide +kernel
abbrev mi_X12_layOrder : MI := (zTM, RX12, yX12_layOrder, cX12_layOrder, 5, (some .boolean), 4)
theorem cal_X12_layOrder : zCalV mi_X12_layOrder 1 := ⟨⟨zTB_i9 100 (by decide +kernel), zTB_i9 99 (by decide +kernel), zTB_i0 116 (by decide +kernel), zTB_i1 13 (by decide +kernel)⟩, ⟨by decide, by decide, by decide +kernel⟩, by decide⟩
noncomputable def X12_layOrder_L1 : Nat → Int32 → Int32 → Int32 → Mem → Option (Bool × Mem)
  | 0, _, _, _, _ => none
  | n + 1, c2, c3, c4, M =>
    bo_ (X12_firsts M) fun v1 =>
    if v1 ≤ c4 then
      some (true, M)
    else
    bo_ (X12_firsts M) fun v3 =>
    gd_ (¬ v3 = 0) (
    gd_ (inb c4 (5) = true) (
    lt_ (uI M 51 c4.toNatClampNeg (c2 % v3)) fun M6 =>
    bo_ (X12_firsts M6) fun v7 =>
    gd_ (¬ v7 = 0) (
    if (X12_has c3 (M6.1 51 c4.toNatClampNeg)) = true then
      some (false, M6)
    else
    lt_ (α := Int32) (c3 ||| (1 <<< ((M6.1 51 c4.toNatClampNeg) &&& 31))) fun y10 =>
    X12_layOrder_L1 n (c2 / v7) y10 (c4 + 1) M6)))
noncomputable def X12_layOrder (x1 : Int32) (M : Mem) : Option (Bool × Mem) :=
  X12_layOrder_L1 zFU x1 0 0 M
set_option maxRecDepth 100000 in
set_option maxHeartbeats 4000000 in
theorem X12_layOrder_L1_ok (G : Gh) : ∀ (n : Nat) (c2 : Int32) (c3 : Int32) (c4 : Int32) (M : Mem), Wr G mi_X12_layOrder (dO dZM) 7 [some (.ref (G.2.2.2 (0))), none, some (.int c2), some (.int c3), some (.int c4)] [] M (X12_layOrder_L1 n c2 c3 c4 M) := by
  intro n
  induction n with
  | zero => intro c2 c3 c4 M; exact r_none rfl
  | succ n ih =>
    intro c2 c3 c4 M
    rw [X12_layOrder_L1]
    refine r_iload dX12_layOrder_7 rfl ?_
    refine r_aload_n dX12_layOrder_9 rfl ?_
    refine c_OI rfl (inv_V (mi := mi_X12_layOrder) (b := 0) (rest := [.int c4]) (X12_firsts_ok G M) rfl (by decide) dX12_layOrder_10 lkm_X12_552 cal_X12_firsts cM_0 rfl rfl (Nat.le_of_ble_eq_true rfl) rfl) (fun v1 => ?_)
    refine r_icmp_ge (tgt := 70) dX12_layOrder_13 rfl (fun h2 => ?_) (fun h2 => ?_)
    · refine r_iconst (x := 1) dX12_layOrder_70 rfl ?_
      exact r_iret (ty := .boolean) dX12_layOrder_71 rfl rfl rfl
    refine r_aload_n dX12_layOrder_16 rfl ?_
    refine r_getf (v := .ref (G.2.2.2 (51))) dX12_layOrder_17 fM_0_76 kX12 (by decide) lkf_X12_167 rfl ?_
    refine r_iload dX12_layOrder_20 rfl ?_
    refine r_iload_n dX12_layOrder_22 rfl ?_
    refine r_aload_n dX12_layOrder_23 rfl ?_
    refine c_OI rfl (inv_V (mi := mi_X12_layOrder) (b := 0) (rest := [.int c2, .int c4, .ref (G.2.2.2 (51))]) (X12_firsts_ok G M) rfl (by decide) dX12_layOrder_24 lkm_X12_552 cal_X12_firsts cM_0 rfl rfl (Nat.le_of_ble_eq_true rfl) rfl) (fun v3 => ?_)
    refine r_gd rfl (fun g4 => ?_)
    refine r_irem dX12_layOrder_27 g4 ?_
    refine r_gd rfl (fun g5 => ?_)
    refine r_iast dX12_layOrder_28 aM_51 (inb_in g5) rfl (fun M6 => ?_)
    refine r_iload_n dX12_layOrder_29 rfl ?_
    refine r_aload_n dX12_layOrder_30 rfl ?_
    refine c_OI rfl (inv_V (mi := mi_X12_layOrder) (b := 0) (rest := [.int c2]) (X12_firsts_ok G M6) rfl (by decide) dX12_layOrder_31 lkm_X12_552 cal_X12_firsts cM_0 rfl rfl (Nat.le_of_ble_eq_true rfl) rfl) (fun v7 => ?_)
    refine r_gd rfl (fun g8 => ?_)
    refine r_idiv dX12_layOrder_34 g8 ?_
    refine r_istore_n (lv' := [some (.ref (G.2.2.2 (0))), none, some (.int (c2 / v7)), some (.int c3), some (.int c4)]) dX12_layOrder_35 (Nat.le_of_ble_eq_true rfl) rfl rfl ?_
    refine r_iload_n dX12_layOrder_36 rfl ?_
    refine r_aload_n dX12_layOrder_37 rfl ?_
    refine r_getf (v := .ref (G.2.2.2 (51))) dX12_layOrder_38 fM_0_76 kX12 (by decide) lkf_X12_167 rfl ?_
    refine r_iload dX12_layOrder_41 rfl ?_
    refine r_iald dX12_layOrder_43 aM_51 (inb_in g5) rfl ?_
    refine c_Z (inv_S (mi := mi_X12_layOrder) (rest := []) (X12_has_ok G c3 (M6.1 51 c4.toNatClampNeg) M6) rfl (by decide) dX12_layOrder_44 lkm_X12_459 cal_X12_has rfl (Nat.le_of_ble_eq_true rfl) rfl) ?_
    refine r_ifz_eq (tgt := 52) dX12_layOrder_47 rfl (fun h9 => ?_) (fun h9 => ?_)
    · refine r_iconst (x := 0) dX12_layOrder_50 rfl ?_
      exact r_iret (ty := .boolean) dX12_layOrder_51 rfl rfl rfl
    refine r_iload_n dX12_layOrder_52 rfl ?_
    refine r_iconst (x := 1) dX12_layOrder_53 rfl ?_
    refine r_aload_n dX12_layOrder_54 rfl ?_
    refine r_getf (v := .ref (G.2.2.2 (51))) dX12_layOrder_55 fM_0_76 kX12 (by decide) lkf_X12_167 rfl ?_
    refine r_iload dX12_layOrder_58 rfl ?_
    refine r_iald dX12_layOrder_60 aM_51 (inb_in g5) rfl ?_
    refine r_ishl dX12_layOrder_61 ?_
    refine r_ior dX12_layOrder_62 ?_
    refine r_letI (fun y10 => ?_)
    refine r_istore_n (lv' := [some (.ref (G.2.2.2 (0))), none, some (.int (c2 / v7)), some (.int y10), some (.int c4)]) dX12_layOrder_63 (Nat.le_of_ble_eq_true rfl) rfl rfl ?_
    refine r_iinc (y := c4 + 1) (lv' := [some (.ref (G.2.2.2 (0))), none, some (.int (c2 / v7)), some (.int y10), some (.int (c4 + 1))]) dX12_layOrder_64 rfl rfl (Nat.le_of_ble_eq_true rfl) rfl rfl ?_
    refine r_goto (tgt := 7) dX12_layOrder_67 rfl ?_
    exact r_lk (ih (c2 / v7) y10 (c4 + 1) M6) (And.intro rfl (And.intro rfl (And.intro rfl (And.intro rfl True.intro))))
set_option maxRecDepth 100000 in
set_option maxHeartbeats 4000000 in
theorem X12_layOrder_ok (G : Gh) (x1 : Int32) (M : Mem) : Mt G mi_X12_layOrder [.ref (G.2.2.2 (0)), .int x1] M ((dO dZM) (X12_layOrder x1 M)) := by
  refine Mt_of (lv := [some (.ref (G.2.2.2 (0))), some (.int x1)]) (by decide) rfl (Nat.le_of_ble_eq_true rfl) rfl ?_
  refine r_le (lv' := [some (.ref (G.2.2.2 (0))), some (.int x1), none, none, none]) (And.intro rfl (And.intro rfl True.intro)) ?_
  unfold X12_layOrder
  refine r_iload_n dX12_layOrder_0 rfl ?_
  refine r_istore_n (lv' := [some (.ref (G.2.2.2 (0))), some (.int x1), some (.int x1), none, none]) dX12_layOrder_1 (Nat.le_of_ble_eq_true rfl) rfl rfl ?_
  refine r_iconst (x := 0) dX12_layOrder_2 rfl ?_
  refine r_istore_n (lv' := [some (.ref (G.2.2.2 (0))), some (.int x1), some (.int x1), some (.int 0), none]) dX12_layOrder_3 (Nat.le_of_ble_eq_true rfl) rfl rfl ?_
  refine r_iconst (x := 0) dX12_layOrder_4 rfl ?_
  refine r_istore (lv' := [some (.ref (G.2.2.2 (0))), some (.int x1), some (.int x1), some (.int 0), some (.int 0)]) dX12_layOrder_5 (Nat.le_of_ble_eq_true rfl) rfl rfl ?_
  exact r_lk (X12_layOrder_L1_ok G zFU x1 0 0 M) (And.intro rfl (And.intro rfl (And.intro rfl (And.intro rfl True.intro))))

theorem dX12_tells_0 : decode cX12_tells 0 = .ok (.aload_n 0, 1) := by decide +kernel
theorem dX12_tells_1 : decode cX12_tells 1 = .ok (.getfield 72, 3) := by decide +kernel
theorem dX12_tells_4 : decode cX12_tells 4 = .ok (.iconst 5, 1) := by decide +kernel
theorem dX12_tells_5 : decode cX12_tells 5 = .ok (.aload_n 0, 1) := by decide +kernel
theorem dX12_tells_6 : decode cX12_tells 6 = .ok (.getfield 301, 3) := by decide +kernel
theorem dX12_tells_9 : decode cX12_tells 9 = .ok (.imul, 1) := by decide +kernel
theorem dX12_tells_10 : decode cX12_tells 10 = .ok (.aload_n 0, 1) := by decide +kernel
theorem dX12_tells_11 : decode cX12_tells 11 = .ok (.getfield 167, 3) := by decide +kernel
theorem dX12_tells_14 : decode cX12_tells 14 = .ok (.iload_n 1, 1) := by decide +kernel
theorem dX12_tells_15 : decode cX12_tells 15 = .ok (.iaload, 1) := by decide +kernel
theorem dX12_tells_16 : decode cX12_tells 16 = .ok (.iadd, 1) := by decide +kernel
theorem dX12_tells_17 : decode cX12_tells 17 = .ok (.iaload, 1) := by decide +kernel
theorem dX12_tells_18 : decode cX12_tells 18 = .ok (.ireturn, 1) := by decide +kernel
abbrev mi_X12_tells : MI := (zTM, RX12, yX12_tells, cX12_tells, 2, (some .int), 2)
theorem cal_X12_tells : zCalV mi_X12_tells 1 := ⟨⟨zTB_i9 108 (by decide +kernel), zTB_i9 107 (by decide +kernel), zTB_i0 118 (by decide +kernel), zTB_i1 13 (by decide +kernel)⟩, ⟨by decide, by decide, by decide +kernel⟩, by decide⟩
noncomputable def X12_tells (x1 : Int32) (M : Mem) : Option (Int32) :=
  gd_ (inb x1 (5) = true) (
  gd_ (inb ((5 * (M.1 0 41)) + (M.1 51 x1.toNatClampNeg)) (10) = true) (
  some (M.1 20 (((5 * (M.1 0 41)) + (M.1 51 x1.toNatClampNeg)).toNatClampNeg))))
set_option maxRecDepth 100000 in
set_option maxHeartbeats 4000000 in
theorem X12_tells_ok (G : Gh) (x1 : Int32) (M : Mem) : Mt G mi_X12_tells [.ref (G.2.2.2 (0)), .int x1] M ((dO (dI M)) (X12_tells x1 M)) := by
  refine Mt_of (lv := [some (.ref (G.2.2.2 (0))), some (.int x1)]) (by decide) rfl (Nat.le_of_ble_eq_true rfl) rfl ?_
  unfold X12_tells
  refine r_aload_n dX12_tells_0 rfl ?_
  refine r_getf (v := .ref (G.2.2.2 (20))) dX12_tells_1 fM_0_28 kX12 (by decide) lkf_X12_72 rfl ?_
  refine r_iconst (x := 5) dX12_tells_4 rfl ?_
  refine r_aload_n dX12_tells_5 rfl ?_
  refine r_getf (v := .int (M.1 0 41)) dX12_tells_6 fM_0_41 kX12 (by decide) lkf_X12_301 rfl ?_
  refine r_imul dX12_tells_9 ?_
  refine r_aload_n dX12_tells_10 rfl ?_
  refine r_getf (v := .ref (G.2.2.2 (51))) dX12_tells_11 fM_0_76 kX12 (by decide) lkf_X12_167 rfl ?_
  refine r_iload_n dX12_tells_14 rfl ?_
  refine r_gd rfl (fun g1 => ?_)
  refine r_iald dX12_tells_15 aM_51 (inb_in g1) rfl ?_
  refine r_iadd dX12_tells_16 ?_
  refine r_gd rfl (fun g2 => ?_)
  refine r_iald dX12_tells_17 aM_20 (inb_in g2) rfl ?_
  exact r_iret (ty := .int) dX12_tells_18 rfl rfl rfl

theorem dX12_doesFit_0 : decode cX12_doesFit 0 = .ok (.iconst 0, 1) := by decide +kernel
theorem dX12_doesFit_1 : decode cX12_doesFit 1 = .ok (.istore_n 2, 1) := by decide +kernel
theorem dX12_doesFit_2 : decode cX12_doesFit 2 = .ok (.iload_n 2, 1) := by decide +kernel
theorem dX12_doesFit_3 : decode cX12_doesFit 3 = .ok (.aload_n 0, 1) := by decide +kernel
theorem dX12_doesFit_4 : decode cX12_doesFit 4 = .ok (.getfield 411, 3) := by decide +kernel
theorem dX12_doesFit_7 : decode cX12_doesFit 7 = .ok (.if_icmp .ge 113, 3) := by decide +kernel
theorem dX12_doesFit_10 : decode cX12_doesFit 10 = .ok (.aload_n 0, 1) := by decide +kernel
theorem dX12_doesFit_11 : decode cX12_doesFit 11 = .ok (.getfield 161, 3) := by decide +kernel
theorem dX12_doesFit_14 : decode cX12_doesFit 14 = .ok (.iload_n 2, 1) := by decide +kernel
theorem dX12_doesFit_15 : decode cX12_doesFit 15 = .ok (.iaload, 1) := by decide +kernel
theorem dX12_doesFit_16 : decode cX12_doesFit 16 = .ok (.iload_n 1, 1) := by decide +kernel
theorem dX12_doesFit_17 : decode cX12_doesFit 17 = .ok (.if_icmp .gt 97, 3) := by decide +kernel
theorem dX12_doesFit_20 : decode cX12_doesFit 20 = .ok (.aload_n 0, 1) := by decide +kernel
theorem dX12_doesFit_21 : decode cX12_doesFit 21 = .ok (.getfield 164, 3) := by decide +kernel
theorem dX12_doesFit_24 : decode cX12_doesFit 24 = .ok (.iload_n 2, 1) := by decide +kernel
theorem dX12_doesFit_25 : decode cX12_doesFit 25 = .ok (.iaload, 1) := by decide +kernel
theorem dX12_doesFit_26 : decode cX12_doesFit 26 = .ok (.ifCond .lt 16, 3) := by decide +kernel
theorem dX12_doesFit_29 : decode cX12_doesFit 29 = .ok (.aload_n 0, 1) := by decide +kernel
theorem dX12_doesFit_30 : decode cX12_doesFit 30 = .ok (.getfield 164, 3) := by decide +kernel
theorem dX12_doesFit_33 : decode cX12_doesFit 33 = .ok (.iload_n 2, 1) := by decide +kernel
theorem dX12_doesFit_34 : decode cX12_doesFit 34 = .ok (.iaload, 1) := by decide +kernel
theorem dX12_doesFit_35 : decode cX12_doesFit 35 = .ok (.iload_n 1, 1) := by decide +kernel
theorem dX12_doesFit_36 : decode cX12_doesFit 36 = .ok (.if_icmp .gt 6, 3) := by decide +kernel
theorem dX12_doesFit_39 : decode cX12_doesFit 39 = .ok (.goto 75, 3) := by decide +kernel
theorem dX12_doesFit_42 : decode cX12_doesFit 42 = .ok (.aload_n 0, 1) := by decide +kernel
theorem dX12_doesFit_43 : decode cX12_doesFit 43 = .ok (.getfield 152, 3) := by decide +kernel
theorem dX12_doesFit_46 : decode cX12_doesFit 46 = .ok (.iload_n 2, 1) := by decide +kernel
theorem dX12_doesFit_47 : decode cX12_doesFit 47 = .ok (.iaload, 1) := by decide +kernel
theorem dX12_doesFit_48 : decode cX12_doesFit 48 = .ok (.ifCond .ge 25, 3) := by decide +kernel
theorem dX12_doesFit_51 : decode cX12_doesFit 51 = .ok (.aload_n 0, 1) := by decide +kernel
theorem dX12_doesFit_52 : decode cX12_doesFit 52 = .ok (.aload_n 0, 1) := by decide +kernel
theorem dX12_doesFit_53 : decode cX12_doesFit 53 = .ok (.getfield 149, 3) := by decide +kernel
theorem dX12_doesFit_56 : decode cX12_doesFit 56 = .ok (.iload_n 2, 1) := by decide +kernel
theorem dX12_doesFit_57 : decode cX12_doesFit 57 = .ok (.iaload, 1) := by decide +kernel
theorem dX12_doesFit_58 : decode cX12_doesFit 58 = .ok (.invokevirtual 566, 3) := by decide +kernel
theorem dX12_doesFit_61 : decode cX12_doesFit 61 = .ok (.aload_n 0, 1) := by decide +kernel
theorem dX12_doesFit_62 : decode cX12_doesFit 62 = .ok (.getfield 155, 3) := by decide +kernel
theorem dX12_doesFit_65 : decode cX12_doesFit 65 = .ok (.iload_n 2, 1) := by decide +kernel
theorem dX12_doesFit_66 : decode cX12_doesFit 66 = .ok (.iaload, 1) := by decide +kernel
theorem dX12_doesFit_67 : decode cX12_doesFit 67 = .ok (.if_icmp .lt 33, 3) := by decide +kernel
theorem dX12_doesFit_70 : decode cX12_doesFit 70 = .ok (.goto 26, 3) := by decide +kernel
theorem dX12_doesFit_73 : decode cX12_doesFit 73 = .ok (.aload_n 0, 1) := by decide +kernel
theorem dX12_doesFit_74 : decode cX12_doesFit 74 = .ok (.aload_n 0, 1) := by decide +kernel
theorem dX12_doesFit_75 : decode cX12_doesFit 75 = .ok (.getfield 149, 3) := by decide +kernel
theorem dX12_doesFit_78 : decode cX12_doesFit 78 = .ok (.iload_n 2, 1) := by decide +kernel
theorem dX12_doesFit_79 : decode cX12_doesFit 79 = .ok (.iaload, 1) := by decide +kernel
theorem dX12_doesFit_80 : decode cX12_doesFit 80 = .ok (.invokevirtual 566, 3) := by decide +kernel
theorem dX12_doesFit_83 : decode cX12_doesFit 83 = .ok (.aload_n 0, 1) := by decide +kernel
theorem dX12_doesFit_84 : decode cX12_doesFit 84 = .ok (.aload_n 0, 1) := by decide +kernel
theorem dX12_doesFit_85 : decode cX12_doesFit 85 = .ok (.getfield 152, 3) := by decide +kernel
theorem dX12_doesFit_88 : decode cX12_doesFit 88 = .ok (.iload_n 2, 1) := by decide +kernel
theorem dX12_doesFit_89 : decode cX12_doesFit 89 = .ok (.iaload, 1) := by decide +kernel
theorem dX12_doesFit_90 : decode cX12_doesFit 90 = .ok (.invokevirtual 566, 3) := by decide +kernel
theorem dX12_doesFit_93 : decode cX12_doesFit 93 = .ok (.if_icmp .le 7, 3) := by decide +kernel
theorem dX12_doesFit_96 : decode cX12_doesFit 96 = .ok (.iconst 1, 1) := by decide +kernel
theorem dX12_doesFit_97 : decode cX12_doesFit 97 = .ok (.goto 4, 3) := by decide +kernel
theorem dX12_doesFit_100 : decode cX12_doesFit 100 = .ok (.iconst 0, 1) := by decide +kernel
theorem dX12_doesFit_101 : decode cX12_doesFit 101 = .ok (.istore_n 3, 1) := by decide +kernel
theorem dX12_doesFit_102 : decode cX12_doesFit 102 = .ok (.iload_n 3, 1) := by decide +kernel
theorem dX12_doesFit_103 : decode cX12_doesFit 103 = .ok (.aload_n 0, 1) := by decide +kernel
theorem dX12_doesFit_104 : decode cX12_doesFit 104 = .ok (.getfield 158, 3) := by decide +kernel
theorem dX12_doesFit_107 : decode cX12_doesFit 107 = .ok (.iload_n 2, 1) := by decide +kernel
theorem dX12_doesFit_108 : decode cX12_doesFit 108 = .ok (.iaload, 1) := by decide +kernel
theorem dX12_doesFit_109 : decode cX12_doesFit 109 = .ok (.if_icmp .eq 5, 3) := by decide +kernel
theorem dX12_doesFit_112 : decode cX12_doesFit 112 = .ok (.iconst 0, 1) := by decide +kernel
theorem dX12_doesFit_113 : decode cX12_doesFit 113 = .ok (.ireturn, 1) := by decide +kernel
theorem dX12_doesFit_114 : decode cX12_doesFit 114 = .ok (.iinc 2 1, 3) := by decide +kernel
theorem dX12_doesFit_117 : decode cX12_doesFit 117 = .ok (.goto (-115), 3) := by decide +kernel
theorem dX12_doesFit_120 : decode cX12_doesFit 120 = .ok (.iconst 1, 1) := by decide +kernel
theorem dX12_doesFit_121 : decode cX12_doesFit 121 = .ok (.ireturn, 1) := by decide +kernel
abbrev mi_X12_doesFit : MI := (zTM, RX12, yX12_doesFit, cX12_doesFit, 4, (some .boolean), 3)
theorem cal_X12_doesFit : zCalV mi_X12_doesFit 1 := ⟨⟨zTB_i9 104 (by decide +kernel), zTB_i9 103 (by decide +kernel), zTB_i0 117 (by decide +kernel), zTB_i1 13 (by decide +kernel)⟩, ⟨by decide, by decide, by decide +kernel⟩, by decide⟩
noncomputable def X12_doesFit_L1 (x1 : Int32) (M : Mem) : Nat → Int32 → Option (Bool)
  | 0, _ => none
  | n + 1, c2 =>
    if (M.1 0 78) ≤ c2 then
      some true
    else
    gd_ (inb c2 (30) = true) (
    if x1 < (M.1 49 c2.toNatClampNeg) then
      X12_doesFit_L1 x1 M n (c2 + 1)
    else
    gd_ (inb c2 (30) = true) (
    l1_ (α := Bool) (
      if (M.1 50 c2.toNatClampNeg) < 0 then
        true
      else
      if x1 < (M.1 50 c2.toNatClampNeg) then
        true
      else
      false) fun t7 =>
    if t7 = true then
      gd_ (inb c2 (30) = true) (
      b1_ (α := Int32) (
        if 0 ≤ (M.1 46 c2.toNatClampNeg) then
          gd_ (inb c2 (30) = true) (
          bo_ (X12_tells (M.1 45 c2.toNatClampNeg) M) fun v12 =>
          bo_ (X12_tells (M.1 46 c2.toNatClampNeg) M) fun v13 =>
          if v12 ≤ v13 then
            some 0
          else
          some 1)
        else
        gd_ (inb c2 (30) = true) (
        bo_ (X12_tells (M.1 45 c2.toNatClampNeg) M) fun v16 =>
        gd_ (inb c2 (30) = true) (
        if v16 < (M.1 47 c2.toNatClampNeg) then
          some 0
        else
        some 1))) fun y19 =>
      gd_ (inb c2 (30) = true) (
      if y19 = (M.1 48 c2.toNatClampNeg) then
        X12_doesFit_L1 x1 M n (c2 + 1)
      else
      some false))
    else
    X12_doesFit_L1 x1 M n (c2 + 1)))
noncomputable def X12_doesFit (x1 : Int32) (M : Mem) : Option (Bool) :=
  X12_doesFit_L1 x1 M zFU 0
set_option maxRecDepth 100000 in
set_option maxHeartbeats 4000000 in
theorem X12_doesFit_L1_ok (G : Gh) (x1 : Int32) (M : Mem) : ∀ (n : Nat) (c2 : Int32), Wr G mi_X12_doesFit (dO (dZ M)) 2 [some (.ref (G.2.2.2 (0))), some (.int x1), some (.int c2), none] [] M (X12_doesFit_L1 x1 M n c2) := by
  intro n
  induction n with
  | zero => intro c2; exact r_none rfl
  | succ n ih =>
    intro c2
    rw [X12_doesFit_L1]
    refine r_iload_n dX12_doesFit_2 rfl ?_
    refine r_aload_n dX12_doesFit_3 rfl ?_
    refine r_getf (v := .int (M.1 0 78)) dX12_doesFit_4 fM_0_78 kX12 (by decide) lkf_X12_411 rfl ?_
    refine r_icmp_ge (tgt := 120) dX12_doesFit_7 rfl (fun h1 => ?_) (fun h1 => ?_)
    · refine r_iconst (x := 1) dX12_doesFit_120 rfl ?_
      exact r_iret (ty := .boolean) dX12_doesFit_121 rfl rfl rfl
    refine r_aload_n dX12_doesFit_10 rfl ?_
    refine r_getf (v := .ref (G.2.2.2 (49))) dX12_doesFit_11 fM_0_74 kX12 (by decide) lkf_X12_161 rfl ?_
    refine r_iload_n dX12_doesFit_14 rfl ?_
    refine r_gd rfl (fun g2 => ?_)
    refine r_iald dX12_doesFit_15 aM_49 (inb_in g2) rfl ?_
    refine r_iload_n dX12_doesFit_16 rfl ?_
    refine r_icmp_gt (tgt := 114) dX12_doesFit_17 rfl (fun h3 => ?_) (fun h3 => ?_)
    · refine r_iinc (y := c2 + 1) (lv' := [some (.ref (G.2.2.2 (0))), some (.int x1), some (.int (c2 + 1)), none]) dX12_doesFit_114 rfl rfl (Nat.le_of_ble_eq_true rfl) rfl rfl ?_
      refine r_goto (tgt := 2) dX12_doesFit_117 rfl ?_
      exact r_lk (ih (c2 + 1)) (And.intro rfl (And.intro rfl (And.intro rfl True.intro)))
    refine r_aload_n dX12_doesFit_20 rfl ?_
    refine r_getf (v := .ref (G.2.2.2 (50))) dX12_doesFit_21 fM_0_75 kX12 (by decide) lkf_X12_164 rfl ?_
    refine r_iload_n dX12_doesFit_24 rfl ?_
    refine r_gd rfl (fun g4 => ?_)
    refine r_iald dX12_doesFit_25 aM_50 (inb_in g4) rfl ?_
    refine r_cL (jX := 42) (jY := 39) (lvX := [some (.ref (G.2.2.2 (0))), some (.int x1), some (.int c2), none]) (lvY := [some (.ref (G.2.2.2 (0))), some (.int x1), some (.int c2), none]) (stX := []) (M1 := M) (fun h8 => ?_) (fun h8 => ?_) (fun hX42 hY39 => ?_)
    · refine r_eq (if_pos rfl) ?_
      refine r_aload_n dX12_doesFit_42 rfl ?_
      refine r_getf (v := .ref (G.2.2.2 (46))) dX12_doesFit_43 fM_0_71 kX12 (by decide) lkf_X12_152 rfl ?_
      refine r_iload_n dX12_doesFit_46 rfl ?_
      refine r_gd rfl (fun g9 => ?_)
      refine r_iald dX12_doesFit_47 aM_46 (inb_in g9) rfl ?_
      refine r_jB1 (j := 101) (lvj := fun y19 => [some (.ref (G.2.2.2 (0))), some (.int x1), some (.int c2), none]) (stj := fun y19 => [.int y19]) (Mj := fun y19 => M) (fun y19 => ?_) (fun hj101 => ?_)
      · refine r_istore_n (lv' := [some (.ref (G.2.2.2 (0))), some (.int x1), some (.int c2), some (.int y19)]) dX12_doesFit_101 (Nat.le_of_ble_eq_true rfl) rfl rfl ?_
        refine r_iload_n dX12_doesFit_102 rfl ?_
        refine r_aload_n dX12_doesFit_103 rfl ?_
        refine r_getf (v := .ref (G.2.2.2 (48))) dX12_doesFit_104 fM_0_73 kX12 (by decide) lkf_X12_158 rfl ?_
        refine r_iload_n dX12_doesFit_107 rfl ?_
        refine r_gd rfl (fun g20 => ?_)
        refine r_iald dX12_doesFit_108 aM_48 (inb_in g20) rfl ?_
        refine r_icmp_eq (tgt := 114) dX12_doesFit_109 rfl (fun h21 => ?_) (fun h21 => ?_)
        · refine r_iinc (y := c2 + 1) (lv' := [some (.ref (G.2.2.2 (0))), some (.int x1), some (.int (c2 + 1)), some (.int y19)]) dX12_doesFit_114 rfl rfl (Nat.le_of_ble_eq_true rfl) rfl rfl ?_
          refine r_goto (tgt := 2) dX12_doesFit_117 rfl ?_
          exact r_lk (ih (c2 + 1)) (And.intro rfl (And.intro rfl (And.intro rfl True.intro)))
        refine r_iconst (x := 0) dX12_doesFit_112 rfl ?_
        exact r_iret (ty := .boolean) dX12_doesFit_113 rfl rfl rfl
      refine r_if_ge (tgt := 73) dX12_doesFit_48 rfl (fun h10 => ?_) (fun h10 => ?_)
      · refine r_aload_n dX12_doesFit_73 rfl ?_
        refine r_aload_n dX12_doesFit_74 rfl ?_
        refine r_getf (v := .ref (G.2.2.2 (45))) dX12_doesFit_75 fM_0_70 kX12 (by decide) lkf_X12_149 rfl ?_
        refine r_iload_n dX12_doesFit_78 rfl ?_
        refine r_gd rfl (fun g11 => ?_)
        refine r_iald dX12_doesFit_79 aM_45 (inb_in g11) rfl ?_
        refine c_OI rfl (inv_V (mi := mi_X12_doesFit) (b := 0) (rest := []) (X12_tells_ok G (M.1 45 c2.toNatClampNeg) M) rfl (by decide) dX12_doesFit_80 lkm_X12_566 cal_X12_tells cM_0 rfl rfl (Nat.le_of_ble_eq_true rfl) rfl) (fun v12 => ?_)
        refine r_aload_n dX12_doesFit_83 rfl ?_
        refine r_aload_n dX12_doesFit_84 rfl ?_
        refine r_getf (v := .ref (G.2.2.2 (46))) dX12_doesFit_85 fM_0_71 kX12 (by decide) lkf_X12_152 rfl ?_
        refine r_iload_n dX12_doesFit_88 rfl ?_
        refine r_iald dX12_doesFit_89 aM_46 (inb_in g9) rfl ?_
        refine c_OI rfl (inv_V (mi := mi_X12_doesFit) (b := 0) (rest := [.int v12]) (X12_tells_ok G (M.1 46 c2.toNatClampNeg) M) rfl (by decide) dX12_doesFit_90 lkm_X12_566 cal_X12_tells cM_0 rfl rfl (Nat.le_of_ble_eq_true rfl) rfl) (fun v13 => ?_)
        refine r_icmp_le (tgt := 100) dX12_doesFit_93 rfl (fun h14 => ?_) (fun h14 => ?_)
        · refine r_iconst (x := 0) dX12_doesFit_100 rfl ?_
          exact r_lk (hj101 0) (And.intro rfl (And.intro rfl (And.intro rfl True.intro)))
        refine r_iconst (x := 1) dX12_doesFit_96 rfl ?_
        refine r_goto (tgt := 101) dX12_doesFit_97 rfl ?_
        exact r_lk (hj101 1) (And.intro rfl (And.intro rfl (And.intro rfl True.intro)))
      refine r_aload_n dX12_doesFit_51 rfl ?_
      refine r_aload_n dX12_doesFit_52 rfl ?_
      refine r_getf (v := .ref (G.2.2.2 (45))) dX12_doesFit_53 fM_0_70 kX12 (by decide) lkf_X12_149 rfl ?_
      refine r_iload_n dX12_doesFit_56 rfl ?_
      refine r_gd rfl (fun g15 => ?_)
      refine r_iald dX12_doesFit_57 aM_45 (inb_in g15) rfl ?_
      refine c_OI rfl (inv_V (mi := mi_X12_doesFit) (b := 0) (rest := []) (X12_tells_ok G (M.1 45 c2.toNatClampNeg) M) rfl (by decide) dX12_doesFit_58 lkm_X12_566 cal_X12_tells cM_0 rfl rfl (Nat.le_of_ble_eq_true rfl) rfl) (fun v16 => ?_)
      refine r_aload_n dX12_doesFit_61 rfl ?_
      refine r_getf (v := .ref (G.2.2.2 (47))) dX12_doesFit_62 fM_0_72 kX12 (by decide) lkf_X12_155 rfl ?_
      refine r_iload_n dX12_doesFit_65 rfl ?_
      refine r_gd rfl (fun g17 => ?_)
      refine r_iald dX12_doesFit_66 aM_47 (inb_in g17) rfl ?_
      refine r_icmp_lt (tgt := 100) dX12_doesFit_67 rfl (fun h18 => ?_) (fun h18 => ?_)
      · refine r_iconst (x := 0) dX12_doesFit_100 rfl ?_
        exact r_lk (hj101 0) (And.intro rfl (And.intro rfl (And.intro rfl True.intro)))
      refine r_goto (tgt := 96) dX12_doesFit_70 rfl ?_
      refine r_iconst (x := 1) dX12_doesFit_96 rfl ?_
      refine r_goto (tgt := 101) dX12_doesFit_97 rfl ?_
      exact r_lk (hj101 1) (And.intro rfl (And.intro rfl (And.intro rfl True.intro)))
    · refine r_eq (if_neg (by decide)) ?_
      refine r_goto (tgt := 114) dX12_doesFit_39 rfl ?_
      refine r_iinc (y := c2 + 1) (lv' := [some (.ref (G.2.2.2 (0))), some (.int x1), some (.int (c2 + 1)), none]) dX12_doesFit_114 rfl rfl (Nat.le_of_ble_eq_true rfl) rfl rfl ?_
      refine r_goto (tgt := 2) dX12_doesFit_117 rfl ?_
      exact r_lk (ih (c2 + 1)) (And.intro rfl (And.intro rfl (And.intro rfl True.intro)))
    refine r_if_lt (tgt := 42) dX12_doesFit_26 rfl (fun h5 => ?_) (fun h5 => ?_)
    · exact r_lk hX42 (And.intro rfl (And.intro rfl (And.intro rfl True.intro)))
    refine r_aload_n dX12_doesFit_29 rfl ?_
    refine r_getf (v := .ref (G.2.2.2 (50))) dX12_doesFit_30 fM_0_75 kX12 (by decide) lkf_X12_164 rfl ?_
    refine r_iload_n dX12_doesFit_33 rfl ?_
    refine r_iald dX12_doesFit_34 aM_50 (inb_in g4) rfl ?_
    refine r_iload_n dX12_doesFit_35 rfl ?_
    refine r_icmp_gt (tgt := 42) dX12_doesFit_36 rfl (fun h6 => ?_) (fun h6 => ?_)
    · exact r_lk hX42 (And.intro rfl (And.intro rfl (And.intro rfl True.intro)))
    exact r_lk hY39 (And.intro rfl (And.intro rfl (And.intro rfl True.intro)))
set_option maxRecDepth 100000 in
set_option maxHeartbeats 4000000 in
theorem X12_doesFit_ok (G : Gh) (x1 : Int32) (M : Mem) : Mt G mi_X12_doesFit [.ref (G.2.2.2 (0)), .int x1] M ((dO (dZ M)) (X12_doesFit x1 M)) := by
  refine Mt_of (lv := [some (.ref (G.2.2.2 (0))), some (.int x1)]) (by decide) rfl (Nat.le_of_ble_eq_true rfl) rfl ?_
  refine r_le (lv' := [some (.ref (G.2.2.2 (0))), some (.int x1), none, none]) (And.intro rfl (And.intro rfl True.intro)) ?_
  unfold X12_doesFit
  refine r_iconst (x := 0) dX12_doesFit_0 rfl ?_
  refine r_istore_n (lv' := [some (.ref (G.2.2.2 (0))), some (.int x1), some (.int 0), none]) dX12_doesFit_1 (Nat.le_of_ble_eq_true rfl) rfl rfl ?_
  exact r_lk (X12_doesFit_L1_ok G x1 M zFU 0) (And.intro rfl (And.intro rfl (And.intro rfl True.intro)))

theorem dX12_layOrders_0 : decode cX12_layOrders 0 = .ok (.iconst 1, 1) := by decide +kernel
theorem dX12_layOrders_1 : decode cX12_layOrders 1 = .ok (.istore_n 2, 1) := by decide +kernel
theorem dX12_layOrders_2 : decode cX12_layOrders 2 = .ok (.iconst 0, 1) := by decide +kernel
theorem dX12_layOrders_3 : decode cX12_layOrders 3 = .ok (.istore_n 3, 1) := by decide +kernel
theorem dX12_layOrders_4 : decode cX12_layOrders 4 = .ok (.iload_n 3, 1) := by decide +kernel
theorem dX12_layOrders_5 : decode cX12_layOrders 5 = .ok (.aload_n 0, 1) := by decide +kernel
theorem dX12_layOrders_6 : decode cX12_layOrders 6 = .ok (.invokevirtual 552, 3) := by decide +kernel
theorem dX12_layOrders_9 : decode cX12_layOrders 9 = .ok (.if_icmp .ge 16, 3) := by decide +kernel
theorem dX12_layOrders_12 : decode cX12_layOrders 12 = .ok (.iload_n 2, 1) := by decide +kernel
theorem dX12_layOrders_13 : decode cX12_layOrders 13 = .ok (.aload_n 0, 1) := by decide +kernel
theorem dX12_layOrders_14 : decode cX12_layOrders 14 = .ok (.invokevirtual 552, 3) := by decide +kernel
theorem dX12_layOrders_17 : decode cX12_layOrders 17 = .ok (.imul, 1) := by decide +kernel
theorem dX12_layOrders_18 : decode cX12_layOrders 18 = .ok (.istore_n 2, 1) := by decide +kernel
theorem dX12_layOrders_19 : decode cX12_layOrders 19 = .ok (.iinc 3 1, 3) := by decide +kernel
theorem dX12_layOrders_22 : decode cX12_layOrders 22 = .ok (.goto (-18), 3) := by decide +kernel
theorem dX12_layOrders_25 : decode cX12_layOrders 25 = .ok (.aload_n 0, 1) := by decide +kernel
theorem dX12_layOrders_26 : decode cX12_layOrders 26 = .ok (.iconst 0, 1) := by decide +kernel
theorem dX12_layOrders_27 : decode cX12_layOrders 27 = .ok (.putfield 569, 3) := by decide +kernel
theorem dX12_layOrders_30 : decode cX12_layOrders 30 = .ok (.iconst 0, 1) := by decide +kernel
theorem dX12_layOrders_31 : decode cX12_layOrders 31 = .ok (.istore_n 3, 1) := by decide +kernel
theorem dX12_layOrders_32 : decode cX12_layOrders 32 = .ok (.iload_n 3, 1) := by decide +kernel
theorem dX12_layOrders_33 : decode cX12_layOrders 33 = .ok (.bipush 25, 2) := by decide +kernel
theorem dX12_layOrders_35 : decode cX12_layOrders 35 = .ok (.if_icmp .ge 16, 3) := by decide +kernel
theorem dX12_layOrders_38 : decode cX12_layOrders 38 = .ok (.aload_n 0, 1) := by decide +kernel
theorem dX12_layOrders_39 : decode cX12_layOrders 39 = .ok (.getfield 170, 3) := by decide +kernel
theorem dX12_layOrders_42 : decode cX12_layOrders 42 = .ok (.iload_n 3, 1) := by decide +kernel
theorem dX12_layOrders_43 : decode cX12_layOrders 43 = .ok (.iconst 0, 1) := by decide +kernel
theorem dX12_layOrders_44 : decode cX12_layOrders 44 = .ok (.iastore, 1) := by decide +kernel
theorem dX12_layOrders_45 : decode cX12_layOrders 45 = .ok (.iinc 3 1, 3) := by decide +kernel
theorem dX12_layOrders_48 : decode cX12_layOrders 48 = .ok (.goto (-16), 3) := by decide +kernel
theorem dX12_layOrders_51 : decode cX12_layOrders 51 = .ok (.iconst 0, 1) := by decide +kernel
theorem dX12_layOrders_52 : decode cX12_layOrders 52 = .ok (.istore_n 3, 1) := by decide +kernel
theorem dX12_layOrders_53 : decode cX12_layOrders 53 = .ok (.iload_n 3, 1) := by decide +kernel
theorem dX12_layOrders_54 : decode cX12_layOrders 54 = .ok (.iload_n 2, 1) := by decide +kernel
theorem dX12_layOrders_55 : decode cX12_layOrders 55 = .ok (.if_icmp .ge 77, 3) := by decide +kernel
theorem dX12_layOrders_58 : decode cX12_layOrders 58 = .ok (.aload_n 0, 1) := by decide +kernel
theorem dX12_layOrders_59 : decode cX12_layOrders 59 = .ok (.iload_n 3, 1) := by decide +kernel
theorem dX12_layOrders_60 : decode cX12_layOrders 60 = .ok (.invokevirtual 572, 3) := by decide +kernel
theorem dX12_layOrders_63 : decode cX12_layOrders 63 = .ok (.ifCond .eq 63, 3) := by decide +kernel
theorem dX12_layOrders_66 : decode cX12_layOrders 66 = .ok (.aload_n 0, 1) := by decide +kernel
theorem dX12_layOrders_67 : decode cX12_layOrders 67 = .ok (.iload_n 1, 1) := by decide +kernel
theorem dX12_layOrders_68 : decode cX12_layOrders 68 = .ok (.invokevirtual 575, 3) := by decide +kernel
theorem dX12_layOrders_71 : decode cX12_layOrders 71 = .ok (.ifCond .ne 6, 3) := by decide +kernel
theorem dX12_layOrders_74 : decode cX12_layOrders 74 = .ok (.goto 52, 3) := by decide +kernel
theorem dX12_layOrders_77 : decode cX12_layOrders 77 = .ok (.aload_n 0, 1) := by decide +kernel
theorem dX12_layOrders_78 : decode cX12_layOrders 78 = .ok (.dup, 1) := by decide +kernel
theorem dX12_layOrders_79 : decode cX12_layOrders 79 = .ok (.getfield 569, 3) := by decide +kernel
theorem dX12_layOrders_82 : decode cX12_layOrders 82 = .ok (.iconst 1, 1) := by decide +kernel
theorem dX12_layOrders_83 : decode cX12_layOrders 83 = .ok (.iadd, 1) := by decide +kernel
theorem dX12_layOrders_84 : decode cX12_layOrders 84 = .ok (.putfield 569, 3) := by decide +kernel
theorem dX12_layOrders_87 : decode cX12_layOrders 87 = .ok (.iconst 0, 1) := by decide +kernel
theorem dX12_layOrders_88 : decode cX12_layOrders 88 = .ok (.istore 4, 2) := by decide +kernel
theorem dX12_layOrders_90 : decode cX12_layOrders 90 = .ok (.iload 4, 2) := by decide +kernel
theorem dX12_layOrders_92 : decode cX12_layOrders 92 = .ok (.aload_n 0, 1) := by decide +kernel
theorem dX12_layOrders_93 : decode cX12_layOrders 93 = .ok (.invokevirtual 552, 3) := by decide +kernel
theorem dX12_layOrders_96 : decode cX12_layOrders 96 = .ok (.if_icmp .ge 30, 3) := by decide +kernel
theorem dX12_layOrders_99 : decode cX12_layOrders 99 = .ok (.aload_n 0, 1) := by decide +kernel
theorem dX12_layOrders_100 : decode cX12_layOrders 100 = .ok (.getfield 170, 3) := by decide +kernel
theorem dX12_layOrders_103 : decode cX12_layOrders 103 = .ok (.iconst 5, 1) := by decide +kernel
theorem dX12_layOrders_104 : decode cX12_layOrders 104 = .ok (.iload 4, 2) := by decide +kernel
theorem dX12_layOrders_106 : decode cX12_layOrders 106 = .ok (.imul, 1) := by decide +kernel
theorem dX12_layOrders_107 : decode cX12_layOrders 107 = .ok (.aload_n 0, 1) := by decide +kernel
theorem dX12_layOrders_108 : decode cX12_layOrders 108 = .ok (.getfield 167, 3) := by decide +kernel
theorem dX12_layOrders_111 : decode cX12_layOrders 111 = .ok (.iload 4, 2) := by decide +kernel
theorem dX12_layOrders_113 : decode cX12_layOrders 113 = .ok (.iaload, 1) := by decide +kernel
theorem dX12_layOrders_114 : decode cX12_layOrders 114 = .ok (.iadd, 1) := by decide +kernel
theorem dX12_layOrders_115 : decode cX12_layOrders 115 = .ok (.dup2, 1) := by decide +kernel
theorem dX12_layOrders_116 : decode cX12_layOrders 116 = .ok (.iaload, 1) := by decide +kernel
theorem dX12_layOrders_117 : decode cX12_layOrders 117 = .ok (.iconst 1, 1) := by decide +kernel
theorem dX12_layOrders_118 : decode cX12_layOrders 118 = .ok (.iadd, 1) := by decide +kernel
theorem dX12_layOrders_119 : decode cX12_layOrders 119 = .ok (.iastore, 1) := by decide +kernel
theorem dX12_layOrders_120 : decode cX12_layOrders 120 = .ok (.iinc 4 1, 3) := by decide +kernel
theorem dX12_layOrders_123 : decode cX12_layOrders 123 = .ok (.goto (-33), 3) := by decide +kernel
theorem dX12_layOrders_126 : decode cX12_layOrders 126 = .ok (.iinc 3 1, 3) := by decide +kernel
theorem dX12_layOrders_129 : decode cX12_layOrders 129 = .ok (.goto (-76), 3) := by decide +kernel
theorem dX12_layOrders_132 : decode cX12_layOrders 132 = .ok (.return_, 1) := by decide +kernel
abbrev mi_X12_layOrders : MI := (zTM, RX12, yX12_layOrders, cX12_layOrders, 5, none, 5)
theorem cal_X12_layOrders : zCalV mi_X12_layOrders 1 := ⟨⟨zTB_i9 96 (by decide +kernel), zTB_i9 95 (by decide +kernel), zTB_i0 115 (by decide +kernel), zTB_i1 13 (by decide +kernel)⟩, ⟨by decide, by decide, by decide +kernel⟩, by decide⟩
noncomputable def X12_layOrders_L4 : Nat → Int32 → Mem → Option (Mem)
  | 0, _, _ => none
  | n + 1, c4, M =>
    bo_ (X12_firsts M) fun v17 =>
    if v17 ≤ c4 then
      some M
    else
    gd_ (inb c4 (5) = true) (
    gd_ (inb ((5 * c4) + (M.1 51 c4.toNatClampNeg)) (25) = true) (
    lt_ (uI M 52 (((5 * c4) + (M.1 51 c4.toNatClampNeg)).toNatClampNeg) ((M.1 52 (((5 * c4) + (M.1 51 c4.toNatClampNeg)).toNatClampNeg)) + 1)) fun M21 =>
    X12_layOrders_L4 n (c4 + 1) M21))
noncomputable def X12_layOrders_L3 (x1 : Int32) (e4 : Int32) : Nat → Int32 → Mem → Option (Mem)
  | 0, _, _ => none
  | n + 1, c3, M =>
    if e4 ≤ c3 then
      some M
    else
    bp_ (X12_layOrder c3 M) fun b11 M12 =>
    b1_ (α := Mem) (
      if b11 = true then
        bo_ (X12_doesFit x1 M12) fun b14 =>
        if b14 = true then
          lt_ (uI M12 0 80 ((M12.1 0 80) + 1)) fun M16 =>
          b1_ (α := Mem) (X12_layOrders_L4 zFU 0 M16) fun M22 =>
          some M22
        else
        some M12
      else
      some M12) fun M23 =>
    X12_layOrders_L3 x1 e4 n (c3 + 1) M23
noncomputable def X12_layOrders_L2 : Nat → Int32 → Mem → Option (Mem)
  | 0, _, _ => none
  | n + 1, c3, M =>
    if 25 ≤ c3 then
      some M
    else
    gd_ (inb c3 (25) = true) (
    lt_ (uI M 52 c3.toNatClampNeg 0) fun M8 =>
    X12_layOrders_L2 n (c3 + 1) M8)
noncomputable def X12_layOrders_L1 (M : Mem) : Nat → Int32 → Int32 → Option (Int32)
  | 0, _, _ => none
  | n + 1, c2, c3 =>
    bo_ (X12_firsts M) fun v1 =>
    if v1 ≤ c3 then
      some c2
    else
    bo_ (X12_firsts M) fun v3 =>
    X12_layOrders_L1 M n (c2 * v3) (c3 + 1)
noncomputable def X12_layOrders (x1 : Int32) (M : Mem) : Option (Mem) :=
  b1_ (α := Int32) (X12_layOrders_L1 M zFU 1 0) fun e4 =>
  lt_ (uI M 0 80 0) fun M5 =>
  b1_ (α := Mem) (X12_layOrders_L2 zFU 0 M5) fun M9 =>
  b1_ (α := Mem) (X12_layOrders_L3 x1 e4 zFU 0 M9) fun M24 =>
  some M24
set_option maxRecDepth 100000 in
set_option maxHeartbeats 4000000 in
theorem X12_layOrders_L4_ok (G : Gh) (x1 : Int32) (c3 : Int32) (e4 : Int32) {dn : Option (Mem) → Option (Option Value × Mem)} (hs : dn none = none) (hx : ∀ (M22 : Mem), Wr G mi_X12_layOrders dn 126 [some (.ref (G.2.2.2 (0))), some (.int x1), some (.int e4), some (.int c3), none] [] M22 (some M22)) : ∀ (n : Nat) (c4 : Int32) (M : Mem), Wr G mi_X12_layOrders dn 90 [some (.ref (G.2.2.2 (0))), some (.int x1), some (.int e4), some (.int c3), some (.int c4)] [] M (X12_layOrders_L4 n c4 M) := by
  intro n
  induction n with
  | zero => intro c4 M; exact r_none (by exact hs)
  | succ n ih =>
    intro c4 M
    rw [X12_layOrders_L4]
    refine r_iload dX12_layOrders_90 rfl ?_
    refine r_aload_n dX12_layOrders_92 rfl ?_
    refine c_OI (by exact hs) (inv_V (mi := mi_X12_layOrders) (b := 0) (rest := [.int c4]) (X12_firsts_ok G M) rfl (by decide) dX12_layOrders_93 lkm_X12_552 cal_X12_firsts cM_0 rfl rfl (Nat.le_of_ble_eq_true rfl) rfl) (fun v17 => ?_)
    refine r_icmp_ge (tgt := 126) dX12_layOrders_96 rfl (fun h18 => ?_) (fun h18 => ?_)
    · exact r_lk (hx M) (And.intro rfl (And.intro rfl (And.intro rfl (And.intro rfl True.intro))))
    refine r_aload_n dX12_layOrders_99 rfl ?_
    refine r_getf (v := .ref (G.2.2.2 (52))) dX12_layOrders_100 fM_0_77 kX12 (by decide) lkf_X12_170 rfl ?_
    refine r_iconst (x := 5) dX12_layOrders_103 rfl ?_
    refine r_iload dX12_layOrders_104 rfl ?_
    refine r_imul dX12_layOrders_106 ?_
    refine r_aload_n dX12_layOrders_107 rfl ?_
    refine r_getf (v := .ref (G.2.2.2 (51))) dX12_layOrders_108 fM_0_76 kX12 (by decide) lkf_X12_167 rfl ?_
    refine r_iload dX12_layOrders_111 rfl ?_
    refine r_gd (by exact hs) (fun g19 => ?_)
    refine r_iald dX12_layOrders_113 aM_51 (inb_in g19) rfl ?_
    refine r_iadd dX12_layOrders_114 ?_
    refine r_dup2 dX12_layOrders_115 rfl rfl ?_
    refine r_gd (by exact hs) (fun g20 => ?_)
    refine r_iald dX12_layOrders_116 aM_52 (inb_in g20) rfl ?_
    refine r_iconst (x := 1) dX12_layOrders_117 rfl ?_
    refine r_iadd dX12_layOrders_118 ?_
    refine r_iast dX12_layOrders_119 aM_52 (inb_in g20) rfl (fun M21 => ?_)
    refine r_iinc (y := c4 + 1) (lv' := [some (.ref (G.2.2.2 (0))), some (.int x1), some (.int e4), some (.int c3), some (.int (c4 + 1))]) dX12_layOrders_120 rfl rfl (Nat.le_of_ble_eq_true rfl) rfl rfl ?_
    refine r_goto (tgt := 90) dX12_layOrders_123 rfl ?_
    exact r_lk (ih (c4 + 1) M21) (And.intro rfl (And.intro rfl (And.intro rfl (And.intro rfl (And.intro rfl True.intro)))))
set_option maxRecDepth 100000 in
set_option maxHeartbeats 4000000 in
theorem X12_layOrders_L3_ok (G : Gh) (x1 : Int32) (e4 : Int32) {dn : Option (Mem) → Option (Option Value × Mem)} (hs : dn none = none) (hx : ∀ (M24 : Mem), Wr G mi_X12_layOrders dn 132 [none, none, none, none, none] [] M24 (some M24)) : ∀ (n : Nat) (c3 : Int32) (M : Mem), Wr G mi_X12_layOrders dn 53 [some (.ref (G.2.2.2 (0))), some (.int x1), some (.int e4), some (.int c3), none] [] M (X12_layOrders_L3 x1 e4 n c3 M) := by
  intro n
  induction n with
  | zero => intro c3 M; exact r_none (by exact hs)
  | succ n ih =>
    intro c3 M
    rw [X12_layOrders_L3]
    refine r_iload_n dX12_layOrders_53 rfl ?_
    refine r_iload_n dX12_layOrders_54 rfl ?_
    refine r_icmp_ge (tgt := 132) dX12_layOrders_55 rfl (fun h10 => ?_) (fun h10 => ?_)
    · exact r_lk (hx M) True.intro
    refine r_aload_n dX12_layOrders_58 rfl ?_
    refine r_iload_n dX12_layOrders_59 rfl ?_
    refine c_OZM (by exact hs) (inv_V (mi := mi_X12_layOrders) (b := 0) (rest := []) (X12_layOrder_ok G c3 M) rfl (by decide) dX12_layOrders_60 lkm_X12_572 cal_X12_layOrder cM_0 rfl rfl (Nat.le_of_ble_eq_true rfl) rfl) (fun b11 M12 => ?_)
    refine r_jB1 (j := 126) (lvj := fun M23 => [some (.ref (G.2.2.2 (0))), some (.int x1), some (.int e4), some (.int c3), none]) (stj := fun M23 => []) (Mj := fun M23 => M23) (fun M23 => ?_) (fun hj126 => ?_)
    · refine r_iinc (y := c3 + 1) (lv' := [some (.ref (G.2.2.2 (0))), some (.int x1), some (.int e4), some (.int (c3 + 1)), none]) dX12_layOrders_126 rfl rfl (Nat.le_of_ble_eq_true rfl) rfl rfl ?_
      refine r_goto (tgt := 53) dX12_layOrders_129 rfl ?_
      exact r_lk (ih (c3 + 1) M23) (And.intro rfl (And.intro rfl (And.intro rfl (And.intro rfl True.intro))))
    refine r_ifz_eq (tgt := 126) dX12_layOrders_63 rfl (fun h13 => ?_) (fun h13 => ?_)
    · refine r_aload_n dX12_layOrders_66 rfl ?_
      refine r_iload_n dX12_layOrders_67 rfl ?_
      refine c_OZ (by exact hs) (inv_V (mi := mi_X12_layOrders) (b := 0) (rest := []) (X12_doesFit_ok G x1 M12) rfl (by decide) dX12_layOrders_68 lkm_X12_575 cal_X12_doesFit cM_0 rfl rfl (Nat.le_of_ble_eq_true rfl) rfl) (fun b14 => ?_)
      refine r_ifz_ne (tgt := 77) dX12_layOrders_71 rfl (fun h15 => ?_) (fun h15 => ?_)
      · refine r_aload_n dX12_layOrders_77 rfl ?_
        refine r_dup dX12_layOrders_78 rfl ?_
        refine r_getf (v := .int (M12.1 0 80)) dX12_layOrders_79 fM_0_80 kX12 (by decide) lkf_X12_569 rfl ?_
        refine r_iconst (x := 1) dX12_layOrders_82 rfl ?_
        refine r_iadd dX12_layOrders_83 ?_
        refine r_putI dX12_layOrders_84 fM_0_80 kX12 (by decide) rfl rfl lkf_X12_569 (fun _ => rfl) rfl rfl (fun M16 => ?_)
        refine r_iconst (x := 0) dX12_layOrders_87 rfl ?_
        refine r_istore (lv' := [some (.ref (G.2.2.2 (0))), some (.int x1), some (.int e4), some (.int c3), some (.int 0)]) dX12_layOrders_88 (Nat.le_of_ble_eq_true rfl) rfl rfl ?_
        refine r_jB1 (j := 126) (lvj := fun M22 => [some (.ref (G.2.2.2 (0))), some (.int x1), some (.int e4), some (.int c3), none]) (stj := fun M22 => []) (Mj := fun M22 => M22) (fun M22 => ?_) (fun hj126 => ?_)
        · exact r_lk (hj126 M22) (And.intro rfl (And.intro rfl (And.intro rfl (And.intro rfl True.intro))))
        exact r_lk (X12_layOrders_L4_ok G x1 c3 e4 (by exact hs) hj126 zFU 0 M16) (And.intro rfl (And.intro rfl (And.intro rfl (And.intro rfl (And.intro rfl True.intro)))))
      refine r_goto (tgt := 126) dX12_layOrders_74 rfl ?_
      exact r_lk (hj126 M12) (And.intro rfl (And.intro rfl (And.intro rfl (And.intro rfl True.intro))))
    exact r_lk (hj126 M12) (And.intro rfl (And.intro rfl (And.intro rfl (And.intro rfl True.intro))))
set_option maxRecDepth 100000 in
set_option maxHeartbeats 4000000 in
theorem X12_layOrders_L2_ok (G : Gh) (x1 : Int32) (e4 : Int32) {dn : Option (Mem) → Option (Option Value × Mem)} (hs : dn none = none) (hx : ∀ (M9 : Mem), Wr G mi_X12_layOrders dn 51 [some (.ref (G.2.2.2 (0))), some (.int x1), some (.int e4), none, none] [] M9 (some M9)) : ∀ (n : Nat) (c3 : Int32) (M : Mem), Wr G mi_X12_layOrders dn 32 [some (.ref (G.2.2.2 (0))), some (.int x1), some (.int e4), some (.int c3), none] [] M (X12_layOrders_L2 n c3 M) := by
  intro n
  induction n with
  | zero => intro c3 M; exact r_none (by exact hs)
  | succ n ih =>
    intro c3 M
    rw [X12_layOrders_L2]
    refine r_iload_n dX12_layOrders_32 rfl ?_
    refine r_bipush (x := 25) dX12_layOrders_33 rfl ?_
    refine r_icmp_ge (tgt := 51) dX12_layOrders_35 rfl (fun h6 => ?_) (fun h6 => ?_)
    · exact r_lk (hx M) (And.intro rfl (And.intro rfl (And.intro rfl True.intro)))
    refine r_aload_n dX12_layOrders_38 rfl ?_
    refine r_getf (v := .ref (G.2.2.2 (52))) dX12_layOrders_39 fM_0_77 kX12 (by decide) lkf_X12_170 rfl ?_
    refine r_iload_n dX12_layOrders_42 rfl ?_
    refine r_iconst (x := 0) dX12_layOrders_43 rfl ?_
    refine r_gd (by exact hs) (fun g7 => ?_)
    refine r_iast dX12_layOrders_44 aM_52 (inb_in g7) rfl (fun M8 => ?_)
    refine r_iinc (y := c3 + 1) (lv' := [some (.ref (G.2.2.2 (0))), some (.int x1), some (.int e4), some (.int (c3 + 1)), none]) dX12_layOrders_45 rfl rfl (Nat.le_of_ble_eq_true rfl) rfl rfl ?_
    refine r_goto (tgt := 32) dX12_layOrders_48 rfl ?_
    exact r_lk (ih (c3 + 1) M8) (And.intro rfl (And.intro rfl (And.intro rfl (And.intro rfl True.intro))))
set_option maxRecDepth 100000 in
set_option maxHeartbeats 4000000 in
theorem X12_layOrders_L1_ok (G : Gh) (x1 : Int32) (M : Mem) {dn : Option (Int32) → Option (Option Value × Mem)} (hs : dn none = none) (hx : ∀ (e4 : Int32), Wr G mi_X12_layOrders dn 25 [some (.ref (G.2.2.2 (0))), some (.int x1), some (.int e4), none, none] [] M (some e4)) : ∀ (n : Nat) (c2 : Int32) (c3 : Int32), Wr G mi_X12_layOrders dn 4 [some (.ref (G.2.2.2 (0))), some (.int x1), some (.int c2), some (.int c3), none] [] M (X12_layOrders_L1 M n c2 c3) := by
  intro n
  induction n with
  | zero => intro c2 c3; exact r_none (by exact hs)
  | succ n ih =>
    intro c2 c3
    rw [X12_layOrders_L1]
    refine r_iload_n dX12_layOrders_4 rfl ?_
    refine r_aload_n dX12_layOrders_5 rfl ?_
    refine c_OI (by exact hs) (inv_V (mi := mi_X12_layOrders) (b := 0) (rest := [.int c3]) (X12_firsts_ok G M) rfl (by decide) dX12_layOrders_6 lkm_X12_552 cal_X12_firsts cM_0 rfl rfl (Nat.le_of_ble_eq_true rfl) rfl) (fun v1 => ?_)
    refine r_icmp_ge (tgt := 25) dX12_layOrders_9 rfl (fun h2 => ?_) (fun h2 => ?_)
    · exact r_lk (hx c2) (And.intro rfl (And.intro rfl (And.intro rfl True.intro)))
    refine r_iload_n dX12_layOrders_12 rfl ?_
    refine r_aload_n dX12_layOrders_13 rfl ?_
    refine c_OI (by exact hs) (inv_V (mi := mi_X12_layOrders) (b := 0) (rest := [.int c2]) (X12_firsts_ok G M) rfl (by decide) dX12_layOrders_14 lkm_X12_552 cal_X12_firsts cM_0 rfl rfl (Nat.le_of_ble_eq_true rfl) rfl) (fun v3 => ?_)
    refine r_imul dX12_layOrders_17 ?_
    refine r_istore_n (lv' := [some (.ref (G.2.2.2 (0))), some (.int x1), some (.int (c2 * v3)), some (.int c3), none]) dX12_layOrders_18 (Nat.le_of_ble_eq_true rfl) rfl rfl ?_
    refine r_iinc (y := c3 + 1) (lv' := [some (.ref (G.2.2.2 (0))), some (.int x1), some (.int (c2 * v3)), some (.int (c3 + 1)), none]) dX12_layOrders_19 rfl rfl (Nat.le_of_ble_eq_true rfl) rfl rfl ?_
    refine r_goto (tgt := 4) dX12_layOrders_22 rfl ?_
    exact r_lk (ih (c2 * v3) (c3 + 1)) (And.intro rfl (And.intro rfl (And.intro rfl (And.intro rfl True.intro))))
set_option maxRecDepth 100000 in
set_option maxHeartbeats 4000000 in
theorem X12_layOrders_ok (G : Gh) (x1 : Int32) (M : Mem) : Mt G mi_X12_layOrders [.ref (G.2.2.2 (0)), .int x1] M ((dO dV) (X12_layOrders x1 M)) := by
  refine Mt_of (lv := [some (.ref (G.2.2.2 (0))), some (.int x1)]) (by decide) rfl (Nat.le_of_ble_eq_true rfl) rfl ?_
  refine r_le (lv' := [some (.ref (G.2.2.2 (0))), some (.int x1), none, none, none]) (And.intro rfl (And.intro rfl True.intro)) ?_
  unfold X12_layOrders
  refine r_iconst (x := 1) dX12_layOrders_0 rfl ?_
  refine r_istore_n (lv' := [some (.ref (G.2.2.2 (0))), some (.int x1), some (.int 1), none, none]) dX12_layOrders_1 (Nat.le_of_ble_eq_true rfl) rfl rfl ?_
  refine r_iconst (x := 0) dX12_layOrders_2 rfl ?_
  refine r_istore_n (lv' := [some (.ref (G.2.2.2 (0))), some (.int x1), some (.int 1), some (.int 0), none]) dX12_layOrders_3 (Nat.le_of_ble_eq_true rfl) rfl rfl ?_
  refine r_jB1 (j := 25) (lvj := fun e4 => [some (.ref (G.2.2.2 (0))), some (.int x1), some (.int e4), none, none]) (stj := fun e4 => []) (Mj := fun e4 => M) (fun e4 => ?_) (fun hj25 => ?_)
  · refine r_aload_n dX12_layOrders_25 rfl ?_
    refine r_iconst (x := 0) dX12_layOrders_26 rfl ?_
    refine r_putI dX12_layOrders_27 fM_0_80 kX12 (by decide) rfl rfl lkf_X12_569 (fun _ => rfl) rfl rfl (fun M5 => ?_)
    refine r_iconst (x := 0) dX12_layOrders_30 rfl ?_
    refine r_istore_n (lv' := [some (.ref (G.2.2.2 (0))), some (.int x1), some (.int e4), some (.int 0), none]) dX12_layOrders_31 (Nat.le_of_ble_eq_true rfl) rfl rfl ?_
    refine r_jB1 (j := 51) (lvj := fun M9 => [some (.ref (G.2.2.2 (0))), some (.int x1), some (.int e4), none, none]) (stj := fun M9 => []) (Mj := fun M9 => M9) (fun M9 => ?_) (fun hj51 => ?_)
    · refine r_iconst (x := 0) dX12_layOrders_51 rfl ?_
      refine r_istore_n (lv' := [some (.ref (G.2.2.2 (0))), some (.int x1), some (.int e4), some (.int 0), none]) dX12_layOrders_52 (Nat.le_of_ble_eq_true rfl) rfl rfl ?_
      refine r_jB1 (j := 132) (lvj := fun M24 => [none, none, none, none, none]) (stj := fun M24 => []) (Mj := fun M24 => M24) (fun M24 => ?_) (fun hj132 => ?_)
      · exact r_vret dX12_layOrders_132 rfl rfl
      exact r_lk (X12_layOrders_L3_ok G x1 e4 rfl hj132 zFU 0 M9) (And.intro rfl (And.intro rfl (And.intro rfl (And.intro rfl True.intro))))
    exact r_lk (X12_layOrders_L2_ok G x1 e4 rfl hj51 zFU 0 M5) (And.intro rfl (And.intro rfl (And.intro rfl (And.intro rfl True.intro))))
  exact r_lk (X12_layOrders_L1_ok G x1 M rfl hj25 zFU 1 0) (And.intro rfl (And.intro rfl (And.intro rfl (And.intro rfl True.intro))))

theorem dX12_orders_0 : decode cX12_orders 0 = .ok (.aload_n 0, 1) := by decide +kernel
theorem dX12_orders_1 : decode cX12_orders 1 = .ok (.iload_n 1, 1) := by decide +kernel
theorem dX12_orders_2 : decode cX12_orders 2 = .ok (.invokevirtual 578, 3) := by decide +kernel
theorem dX12_orders_5 : decode cX12_orders 5 = .ok (.aload_n 0, 1) := by decide +kernel
theorem dX12_orders_6 : decode cX12_orders 6 = .ok (.getfield 569, 3) := by decide +kernel
theorem dX12_orders_9 : decode cX12_orders 9 = .ok (.ireturn, 1) := by decide +kernel
abbrev mi_X12_orders : MI := (zTM, RX12, yX12_orders, cX12_orders, 2, (some .int), 6)
theorem cal_X12_orders : zCalV mi_X12_orders 1 := ⟨⟨zTB_i9 92 (by decide +kernel), zTB_i9 90 (by decide +kernel), zTB_i9 91 (by decide +kernel), zTB_i1 13 (by decide +kernel)⟩, ⟨by decide, by decide, by decide +kernel⟩, by decide⟩
noncomputable def X12_orders (x1 : Int32) (M : Mem) : Option (Int32 × Mem) :=
  bo_ (X12_layOrders x1 M) fun M1 =>
  some (M1.1 0 80, M1)
set_option maxRecDepth 100000 in
set_option maxHeartbeats 4000000 in
theorem X12_orders_ok (G : Gh) (x1 : Int32) (M : Mem) : Mt G mi_X12_orders [.ref (G.2.2.2 (0)), .int x1] M ((dO dIM) (X12_orders x1 M)) := by
  refine Mt_of (lv := [some (.ref (G.2.2.2 (0))), some (.int x1)]) (by decide) rfl (Nat.le_of_ble_eq_true rfl) rfl ?_
  unfold X12_orders
  refine r_aload_n dX12_orders_0 rfl ?_
  refine r_iload_n dX12_orders_1 rfl ?_
  refine c_OV rfl (inv_V (mi := mi_X12_orders) (b := 0) (rest := []) (X12_layOrders_ok G x1 M) rfl (by decide) dX12_orders_2 lkm_X12_578 cal_X12_layOrders cM_0 rfl rfl (Nat.le_of_ble_eq_true rfl) rfl) (fun M1 => ?_)
  refine r_aload_n dX12_orders_5 rfl ?_
  refine r_getf (v := .int (M1.1 0 80)) dX12_orders_6 fM_0_80 kX12 (by decide) lkf_X12_569 rfl ?_
  exact r_iret (ty := .int) dX12_orders_9 rfl rfl rfl

theorem dX12_sure_0 : decode cX12_sure 0 = .ok (.aload_n 0, 1) := by decide +kernel
theorem dX12_sure_1 : decode cX12_sure 1 = .ok (.iload_n 1, 1) := by decide +kernel
theorem dX12_sure_2 : decode cX12_sure 2 = .ok (.invokevirtual 558, 3) := by decide +kernel
theorem dX12_sure_5 : decode cX12_sure 5 = .ok (.ifCond .ne 5, 3) := by decide +kernel
theorem dX12_sure_8 : decode cX12_sure 8 = .ok (.iconst (-1), 1) := by decide +kernel
theorem dX12_sure_9 : decode cX12_sure 9 = .ok (.ireturn, 1) := by decide +kernel
theorem dX12_sure_10 : decode cX12_sure 10 = .ok (.aload_n 0, 1) := by decide +kernel
theorem dX12_sure_11 : decode cX12_sure 11 = .ok (.iload_n 2, 1) := by decide +kernel
theorem dX12_sure_12 : decode cX12_sure 12 = .ok (.invokevirtual 578, 3) := by decide +kernel
theorem dX12_sure_15 : decode cX12_sure 15 = .ok (.iconst 0, 1) := by decide +kernel
theorem dX12_sure_16 : decode cX12_sure 16 = .ok (.istore_n 3, 1) := by decide +kernel
theorem dX12_sure_17 : decode cX12_sure 17 = .ok (.iload_n 3, 1) := by decide +kernel
theorem dX12_sure_18 : decode cX12_sure 18 = .ok (.iconst 5, 1) := by decide +kernel
theorem dX12_sure_19 : decode cX12_sure 19 = .ok (.if_icmp .ge 35, 3) := by decide +kernel
theorem dX12_sure_22 : decode cX12_sure 22 = .ok (.aload_n 0, 1) := by decide +kernel
theorem dX12_sure_23 : decode cX12_sure 23 = .ok (.getfield 569, 3) := by decide +kernel
theorem dX12_sure_26 : decode cX12_sure 26 = .ok (.ifCond .le 28, 3) := by decide +kernel
theorem dX12_sure_29 : decode cX12_sure 29 = .ok (.aload_n 0, 1) := by decide +kernel
theorem dX12_sure_30 : decode cX12_sure 30 = .ok (.getfield 170, 3) := by decide +kernel
theorem dX12_sure_33 : decode cX12_sure 33 = .ok (.iconst 5, 1) := by decide +kernel
theorem dX12_sure_34 : decode cX12_sure 34 = .ok (.iload_n 1, 1) := by decide +kernel
theorem dX12_sure_35 : decode cX12_sure 35 = .ok (.imul, 1) := by decide +kernel
theorem dX12_sure_36 : decode cX12_sure 36 = .ok (.iload_n 3, 1) := by decide +kernel
theorem dX12_sure_37 : decode cX12_sure 37 = .ok (.iadd, 1) := by decide +kernel
theorem dX12_sure_38 : decode cX12_sure 38 = .ok (.iaload, 1) := by decide +kernel
theorem dX12_sure_39 : decode cX12_sure 39 = .ok (.aload_n 0, 1) := by decide +kernel
theorem dX12_sure_40 : decode cX12_sure 40 = .ok (.getfield 569, 3) := by decide +kernel
theorem dX12_sure_43 : decode cX12_sure 43 = .ok (.if_icmp .ne 5, 3) := by decide +kernel
theorem dX12_sure_46 : decode cX12_sure 46 = .ok (.iload_n 3, 1) := by decide +kernel
theorem dX12_sure_47 : decode cX12_sure 47 = .ok (.ireturn, 1) := by decide +kernel
theorem dX12_sure_48 : decode cX12_sure 48 = .ok (.iinc 3 1, 3) := by decide +kernel
theorem dX12_sure_51 : decode cX12_sure 51 = .ok (.goto (-34), 3) := by decide +kernel
theorem dX12_sure_54 : decode cX12_sure 54 = .ok (.aload_n 0, 1) := by decide +kernel
theorem dX12_sure_55 : decode cX12_sure 55 = .ok (.getfield 569, 3) := by decide +kernel
theorem dX12_sure_58 : decode cX12_sure 58 = .ok (.ifCond .ne 7, 3) := by decide +kernel
theorem dX12_sure_61 : decode cX12_sure 61 = .ok (.iconst (-1), 1) := by decide +kernel
theorem dX12_sure_62 : decode cX12_sure 62 = .ok (.goto 5, 3) := by decide +kernel
theorem dX12_sure_65 : decode cX12_sure 65 = .ok (.bipush (-2), 2) := by decide +kernel
theorem dX12_sure_67 : decode cX12_sure 67 = .ok (.ireturn, 1) := by decide +kernel
abbrev mi_X12_sure : MI := (zTM, RX12, yX12_sure, cX12_sure, 4, (some .int), 6)
theorem cal_X12_sure : zCalV mi_X12_sure 2 := ⟨⟨zTB_i9 112 (by decide +kernel), zTB_i9 110 (by decide +kernel), zTB_i9 111 (by decide +kernel), zTB_i1 13 (by decide +kernel)⟩, ⟨by decide, by decide, by decide +kernel⟩, by decide⟩
noncomputable def X12_sure_L1 (x1 : Int32) (M : Mem) : Nat → Int32 → Option (Int32 × Mem)
  | 0, _ => none
  | n + 1, c3 =>
    l1_ (α := Bool) (
      if 5 ≤ c3 then
        true
      else
      if (M.1 0 80) ≤ 0 then
        true
      else
      false) fun t6 =>
    if t6 = true then
      if (M.1 0 80) = 0 then
        some ((-1), M)
      else
      some ((-2), M)
    else
    gd_ (inb ((5 * x1) + c3) (25) = true) (
    if (M.1 52 (((5 * x1) + c3).toNatClampNeg)) = (M.1 0 80) then
      some (c3, M)
    else
    X12_sure_L1 x1 M n (c3 + 1))
noncomputable def X12_sure (x1 : Int32) (x2 : Int32) (M : Mem) : Option (Int32 × Mem) :=
  bo_ (X12_isFirst x1 M) fun b1 =>
  if b1 = true then
    bo_ (X12_layOrders x2 M) fun M3 =>
    X12_sure_L1 x1 M3 zFU 0
  else
  some ((-1), M)
set_option maxRecDepth 100000 in
set_option maxHeartbeats 4000000 in
theorem X12_sure_L1_ok (G : Gh) (x1 : Int32) (M : Mem) : ∀ (n : Nat) (c3 : Int32), Wr G mi_X12_sure (dO dIM) 17 [some (.ref (G.2.2.2 (0))), some (.int x1), none, some (.int c3)] [] M (X12_sure_L1 x1 M n c3) := by
  intro n
  induction n with
  | zero => intro c3; exact r_none rfl
  | succ n ih =>
    intro c3
    rw [X12_sure_L1]
    refine r_iload_n dX12_sure_17 rfl ?_
    refine r_iconst (x := 5) dX12_sure_18 rfl ?_
    refine r_cL (jX := 54) (jY := 29) (lvX := [some (.ref (G.2.2.2 (0))), none, none, none]) (lvY := [some (.ref (G.2.2.2 (0))), some (.int x1), none, some (.int c3)]) (stX := []) (M1 := M) (fun h7 => ?_) (fun h7 => ?_) (fun hX54 hY29 => ?_)
    · refine r_eq (if_pos rfl) ?_
      refine r_aload_n dX12_sure_54 rfl ?_
      refine r_getf (v := .int (M.1 0 80)) dX12_sure_55 fM_0_80 kX12 (by decide) lkf_X12_569 rfl ?_
      refine r_if_ne (tgt := 65) dX12_sure_58 rfl (fun h8 => ?_) (fun h8 => ?_)
      · refine r_iconst (x := (-1)) dX12_sure_61 rfl ?_
        refine r_goto (tgt := 67) dX12_sure_62 rfl ?_
        exact r_iret (ty := .int) dX12_sure_67 rfl rfl rfl
      refine r_bipush (x := (-2)) dX12_sure_65 rfl ?_
      exact r_iret (ty := .int) dX12_sure_67 rfl rfl rfl
    · refine r_eq (if_neg (by decide)) ?_
      refine r_aload_n dX12_sure_29 rfl ?_
      refine r_getf (v := .ref (G.2.2.2 (52))) dX12_sure_30 fM_0_77 kX12 (by decide) lkf_X12_170 rfl ?_
      refine r_iconst (x := 5) dX12_sure_33 rfl ?_
      refine r_iload_n dX12_sure_34 rfl ?_
      refine r_imul dX12_sure_35 ?_
      refine r_iload_n dX12_sure_36 rfl ?_
      refine r_iadd dX12_sure_37 ?_
      refine r_gd rfl (fun g9 => ?_)
      refine r_iald dX12_sure_38 aM_52 (inb_in g9) rfl ?_
      refine r_aload_n dX12_sure_39 rfl ?_
      refine r_getf (v := .int (M.1 0 80)) dX12_sure_40 fM_0_80 kX12 (by decide) lkf_X12_569 rfl ?_
      refine r_icmp_ne (tgt := 48) dX12_sure_43 rfl (fun h10 => ?_) (fun h10 => ?_)
      · refine r_iload_n dX12_sure_46 rfl ?_
        exact r_iret (ty := .int) dX12_sure_47 rfl rfl rfl
      refine r_iinc (y := c3 + 1) (lv' := [some (.ref (G.2.2.2 (0))), some (.int x1), none, some (.int (c3 + 1))]) dX12_sure_48 rfl rfl (Nat.le_of_ble_eq_true rfl) rfl rfl ?_
      refine r_goto (tgt := 17) dX12_sure_51 rfl ?_
      exact r_lk (ih (c3 + 1)) (And.intro rfl (And.intro rfl (And.intro rfl True.intro)))
    refine r_icmp_ge (tgt := 54) dX12_sure_19 rfl (fun h4 => ?_) (fun h4 => ?_)
    · exact r_lk hX54 (And.intro rfl True.intro)
    refine r_aload_n dX12_sure_22 rfl ?_
    refine r_getf (v := .int (M.1 0 80)) dX12_sure_23 fM_0_80 kX12 (by decide) lkf_X12_569 rfl ?_
    refine r_if_le (tgt := 54) dX12_sure_26 rfl (fun h5 => ?_) (fun h5 => ?_)
    · exact r_lk hX54 (And.intro rfl True.intro)
    exact r_lk hY29 (And.intro rfl (And.intro rfl (And.intro rfl True.intro)))
set_option maxRecDepth 100000 in
set_option maxHeartbeats 4000000 in
theorem X12_sure_ok (G : Gh) (x1 : Int32) (x2 : Int32) (M : Mem) : Mt G mi_X12_sure [.ref (G.2.2.2 (0)), .int x1, .int x2] M ((dO dIM) (X12_sure x1 x2 M)) := by
  refine Mt_of (lv := [some (.ref (G.2.2.2 (0))), some (.int x1), some (.int x2)]) (by decide) rfl (Nat.le_of_ble_eq_true rfl) rfl ?_
  refine r_le (lv' := [some (.ref (G.2.2.2 (0))), some (.int x1), some (.int x2), none]) (And.intro rfl (And.intro rfl (And.intro rfl True.intro))) ?_
  unfold X12_sure
  refine r_aload_n dX12_sure_0 rfl ?_
  refine r_iload_n dX12_sure_1 rfl ?_
  refine c_OZ rfl (inv_V (mi := mi_X12_sure) (b := 0) (rest := []) (X12_isFirst_ok G x1 M) rfl (by decide) dX12_sure_2 lkm_X12_558 cal_X12_isFirst cM_0 rfl rfl (Nat.le_of_ble_eq_true rfl) rfl) (fun b1 => ?_)
  refine r_ifz_ne (tgt := 10) dX12_sure_5 rfl (fun h2 => ?_) (fun h2 => ?_)
  · refine r_aload_n dX12_sure_10 rfl ?_
    refine r_iload_n dX12_sure_11 rfl ?_
    refine c_OV rfl (inv_V (mi := mi_X12_sure) (b := 0) (rest := []) (X12_layOrders_ok G x2 M) rfl (by decide) dX12_sure_12 lkm_X12_578 cal_X12_layOrders cM_0 rfl rfl (Nat.le_of_ble_eq_true rfl) rfl) (fun M3 => ?_)
    refine r_iconst (x := 0) dX12_sure_15 rfl ?_
    refine r_istore_n (lv' := [some (.ref (G.2.2.2 (0))), some (.int x1), some (.int x2), some (.int 0)]) dX12_sure_16 (Nat.le_of_ble_eq_true rfl) rfl rfl ?_
    exact r_lk (X12_sure_L1_ok G x1 M3 zFU 0) (And.intro rfl (And.intro rfl (And.intro rfl True.intro)))
  refine r_iconst (x := (-1)) dX12_sure_8 rfl ?_
  exact r_iret (ty := .int) dX12_sure_9 rfl rfl rfl

theorem dX12_ask_0 : decode cX12_ask 0 = .ok (.iload_n 1, 1) := by decide +kernel
theorem dX12_ask_1 : decode cX12_ask 1 = .ok (.iconst 0, 1) := by decide +kernel
theorem dX12_ask_2 : decode cX12_ask 2 = .ok (.iconst 1, 1) := by decide +kernel
theorem dX12_ask_3 : decode cX12_ask 3 = .ok (.invokestatic 401, 3) := by decide +kernel
theorem dX12_ask_6 : decode cX12_ask 6 = .ok (.ifCond .ne 5, 3) := by decide +kernel
theorem dX12_ask_9 : decode cX12_ask 9 = .ok (.iconst (-1), 1) := by decide +kernel
theorem dX12_ask_10 : decode cX12_ask 10 = .ok (.ireturn, 1) := by decide +kernel
theorem dX12_ask_11 : decode cX12_ask 11 = .ok (.aload_n 0, 1) := by decide +kernel
theorem dX12_ask_12 : decode cX12_ask 12 = .ok (.iload_n 2, 1) := by decide +kernel
theorem dX12_ask_13 : decode cX12_ask 13 = .ok (.invokevirtual 578, 3) := by decide +kernel
theorem dX12_ask_16 : decode cX12_ask 16 = .ok (.iconst (-1), 1) := by decide +kernel
theorem dX12_ask_17 : decode cX12_ask 17 = .ok (.istore_n 3, 1) := by decide +kernel
theorem dX12_ask_18 : decode cX12_ask 18 = .ok (.iconst 0, 1) := by decide +kernel
theorem dX12_ask_19 : decode cX12_ask 19 = .ok (.istore 4, 2) := by decide +kernel
theorem dX12_ask_21 : decode cX12_ask 21 = .ok (.iconst 0, 1) := by decide +kernel
theorem dX12_ask_22 : decode cX12_ask 22 = .ok (.istore 5, 2) := by decide +kernel
theorem dX12_ask_24 : decode cX12_ask 24 = .ok (.iload 5, 2) := by decide +kernel
theorem dX12_ask_26 : decode cX12_ask 26 = .ok (.aload_n 0, 1) := by decide +kernel
theorem dX12_ask_27 : decode cX12_ask 27 = .ok (.invokevirtual 552, 3) := by decide +kernel
theorem dX12_ask_30 : decode cX12_ask 30 = .ok (.if_icmp .ge 86, 3) := by decide +kernel
theorem dX12_ask_33 : decode cX12_ask 33 = .ok (.aload_n 0, 1) := by decide +kernel
theorem dX12_ask_34 : decode cX12_ask 34 = .ok (.getfield 569, 3) := by decide +kernel
theorem dX12_ask_37 : decode cX12_ask 37 = .ok (.ifCond .le 79, 3) := by decide +kernel
theorem dX12_ask_40 : decode cX12_ask 40 = .ok (.iconst 0, 1) := by decide +kernel
theorem dX12_ask_41 : decode cX12_ask 41 = .ok (.istore 6, 2) := by decide +kernel
theorem dX12_ask_43 : decode cX12_ask 43 = .ok (.iconst 0, 1) := by decide +kernel
theorem dX12_ask_44 : decode cX12_ask 44 = .ok (.istore 7, 2) := by decide +kernel
theorem dX12_ask_46 : decode cX12_ask 46 = .ok (.iload 7, 2) := by decide +kernel
theorem dX12_ask_48 : decode cX12_ask 48 = .ok (.iconst 5, 1) := by decide +kernel
theorem dX12_ask_49 : decode cX12_ask 49 = .ok (.if_icmp .ge 40, 3) := by decide +kernel
theorem dX12_ask_52 : decode cX12_ask 52 = .ok (.aload_n 0, 1) := by decide +kernel
theorem dX12_ask_53 : decode cX12_ask 53 = .ok (.getfield 170, 3) := by decide +kernel
theorem dX12_ask_56 : decode cX12_ask 56 = .ok (.iconst 5, 1) := by decide +kernel
theorem dX12_ask_57 : decode cX12_ask 57 = .ok (.iload 5, 2) := by decide +kernel
theorem dX12_ask_59 : decode cX12_ask 59 = .ok (.imul, 1) := by decide +kernel
theorem dX12_ask_60 : decode cX12_ask 60 = .ok (.iload 7, 2) := by decide +kernel
theorem dX12_ask_62 : decode cX12_ask 62 = .ok (.iadd, 1) := by decide +kernel
theorem dX12_ask_63 : decode cX12_ask 63 = .ok (.iaload, 1) := by decide +kernel
theorem dX12_ask_64 : decode cX12_ask 64 = .ok (.iload 6, 2) := by decide +kernel
theorem dX12_ask_66 : decode cX12_ask 66 = .ok (.if_icmp .le 17, 3) := by decide +kernel
theorem dX12_ask_69 : decode cX12_ask 69 = .ok (.aload_n 0, 1) := by decide +kernel
theorem dX12_ask_70 : decode cX12_ask 70 = .ok (.getfield 170, 3) := by decide +kernel
theorem dX12_ask_73 : decode cX12_ask 73 = .ok (.iconst 5, 1) := by decide +kernel
theorem dX12_ask_74 : decode cX12_ask 74 = .ok (.iload 5, 2) := by decide +kernel
theorem dX12_ask_76 : decode cX12_ask 76 = .ok (.imul, 1) := by decide +kernel
theorem dX12_ask_77 : decode cX12_ask 77 = .ok (.iload 7, 2) := by decide +kernel
theorem dX12_ask_79 : decode cX12_ask 79 = .ok (.iadd, 1) := by decide +kernel
theorem dX12_ask_80 : decode cX12_ask 80 = .ok (.iaload, 1) := by decide +kernel
theorem dX12_ask_81 : decode cX12_ask 81 = .ok (.istore 6, 2) := by decide +kernel
theorem dX12_ask_83 : decode cX12_ask 83 = .ok (.iinc 7 1, 3) := by decide +kernel
theorem dX12_ask_86 : decode cX12_ask 86 = .ok (.goto (-40), 3) := by decide +kernel
theorem dX12_ask_89 : decode cX12_ask 89 = .ok (.iload_n 3, 1) := by decide +kernel
theorem dX12_ask_90 : decode cX12_ask 90 = .ok (.ifCond .lt 13, 3) := by decide +kernel
theorem dX12_ask_93 : decode cX12_ask 93 = .ok (.iload 6, 2) := by decide +kernel
theorem dX12_ask_95 : decode cX12_ask 95 = .ok (.iload 4, 2) := by decide +kernel
theorem dX12_ask_97 : decode cX12_ask 97 = .ok (.if_icmp .lt 6, 3) := by decide +kernel
theorem dX12_ask_100 : decode cX12_ask 100 = .ok (.goto 10, 3) := by decide +kernel
theorem dX12_ask_103 : decode cX12_ask 103 = .ok (.iload 5, 2) := by decide +kernel
theorem dX12_ask_105 : decode cX12_ask 105 = .ok (.istore_n 3, 1) := by decide +kernel
theorem dX12_ask_106 : decode cX12_ask 106 = .ok (.iload 6, 2) := by decide +kernel
theorem dX12_ask_108 : decode cX12_ask 108 = .ok (.istore 4, 2) := by decide +kernel
theorem dX12_ask_110 : decode cX12_ask 110 = .ok (.iinc 5 1, 3) := by decide +kernel
theorem dX12_ask_113 : decode cX12_ask 113 = .ok (.goto (-89), 3) := by decide +kernel
theorem dX12_ask_116 : decode cX12_ask 116 = .ok (.iload_n 3, 1) := by decide +kernel
theorem dX12_ask_117 : decode cX12_ask 117 = .ok (.ifCond .ge 7, 3) := by decide +kernel
theorem dX12_ask_120 : decode cX12_ask 120 = .ok (.iconst (-1), 1) := by decide +kernel
theorem dX12_ask_121 : decode cX12_ask 121 = .ok (.goto 13, 3) := by decide +kernel
theorem dX12_ask_124 : decode cX12_ask 124 = .ok (.iload_n 1, 1) := by decide +kernel
theorem dX12_ask_125 : decode cX12_ask 125 = .ok (.ifCond .ne 7, 3) := by decide +kernel
theorem dX12_ask_128 : decode cX12_ask 128 = .ok (.iload_n 3, 1) := by decide +kernel
theorem dX12_ask_129 : decode cX12_ask 129 = .ok (.goto 5, 3) := by decide +kernel
theorem dX12_ask_132 : decode cX12_ask 132 = .ok (.iload 4, 2) := by decide +kernel
theorem dX12_ask_134 : decode cX12_ask 134 = .ok (.ireturn, 1) := by decide +kernel
abbrev mi_X12_ask : MI := (zTM, RX12, yX12_ask, cX12_ask, 8, (some .int), 6)
theorem cal_X12_ask : zCalV mi_X12_ask 2 := ⟨⟨zTB_i9 116 (by decide +kernel), zTB_i9 114 (by decide +kernel), zTB_i9 115 (by decide +kernel), zTB_i1 13 (by decide +kernel)⟩, ⟨by decide, by decide, by decide +kernel⟩, by decide⟩
noncomputable def X12_ask_L2 (c5 : Int32) (M : Mem) : Nat → Int32 → Int32 → Option (Int32)
  | 0, _, _ => none
  | n + 1, c6, c7 =>
    if 5 ≤ c7 then
      some c6
    else
    gd_ (inb ((5 * c5) + c7) (25) = true) (
    l1_ (α := Int32) (
      if (M.1 52 (((5 * c5) + c7).toNatClampNeg)) ≤ c6 then
        c6
      else
      lt_ (α := Int32) (M.1 52 (((5 * c5) + c7).toNatClampNeg)) fun y9 =>
      y9) fun y10 =>
    X12_ask_L2 c5 M n y10 (c7 + 1))
noncomputable def X12_ask_L1 (M : Mem) : Nat → Int32 → Int32 → Int32 → Option (Int32 × Int32)
  | 0, _, _, _ => none
  | n + 1, c3, c4, c5 =>
    bo_ (X12_firsts M) fun v3 =>
    if v3 ≤ c5 then
      some (c3, c4)
    else
    if (M.1 0 80) ≤ 0 then
      some (c3, c4)
    else
    b1_ (α := Int32) (X12_ask_L2 c5 M zFU 0 0) fun e11 =>
    l2_ (α := Int32) (β := Int32) (
      l1_ (α := Bool) (
        if c3 < 0 then
          true
        else
        if e11 < c4 then
          true
        else
        false) fun t14 =>
      if t14 = true then
        (c5, e11)
      else
      (c3, c4)) fun y16 y17 =>
    X12_ask_L1 M n y16 y17 (c5 + 1)
noncomputable def X12_ask (x1 : Int32) (x2 : Int32) (M : Mem) : Option (Int32 × Mem) :=
  if (X12_isIn x1 0 1) = true then
    bo_ (X12_layOrders x2 M) fun M2 =>
    b2_ (α := Int32) (β := Int32) (X12_ask_L1 M2 zFU (-1) 0 0) fun e18 e19 =>
    if 0 ≤ e18 then
      if x1 = 0 then
        some (e18, M2)
      else
      some (e19, M2)
    else
    some ((-1), M2)
  else
  some ((-1), M)
set_option maxRecDepth 100000 in
set_option maxHeartbeats 4000000 in
theorem X12_ask_L2_ok (G : Gh) (x1 : Int32) (c3 : Int32) (c4 : Int32) (c5 : Int32) (M : Mem) {dn : Option (Int32) → Option (Option Value × Mem)} (hs : dn none = none) (hx : ∀ (e11 : Int32), Wr G mi_X12_ask dn 89 [some (.ref (G.2.2.2 (0))), some (.int x1), none, some (.int c3), some (.int c4), some (.int c5), some (.int e11), none] [] M (some e11)) : ∀ (n : Nat) (c6 : Int32) (c7 : Int32), Wr G mi_X12_ask dn 46 [some (.ref (G.2.2.2 (0))), some (.int x1), none, some (.int c3), some (.int c4), some (.int c5), some (.int c6), some (.int c7)] [] M (X12_ask_L2 c5 M n c6 c7) := by
  intro n
  induction n with
  | zero => intro c6 c7; exact r_none (by exact hs)
  | succ n ih =>
    intro c6 c7
    rw [X12_ask_L2]
    refine r_iload dX12_ask_46 rfl ?_
    refine r_iconst (x := 5) dX12_ask_48 rfl ?_
    refine r_icmp_ge (tgt := 89) dX12_ask_49 rfl (fun h6 => ?_) (fun h6 => ?_)
    · exact r_lk (hx c6) (And.intro rfl (And.intro rfl (And.intro rfl (And.intro rfl (And.intro rfl (And.intro rfl True.intro))))))
    refine r_aload_n dX12_ask_52 rfl ?_
    refine r_getf (v := .ref (G.2.2.2 (52))) dX12_ask_53 fM_0_77 kX12 (by decide) lkf_X12_170 rfl ?_
    refine r_iconst (x := 5) dX12_ask_56 rfl ?_
    refine r_iload dX12_ask_57 rfl ?_
    refine r_imul dX12_ask_59 ?_
    refine r_iload dX12_ask_60 rfl ?_
    refine r_iadd dX12_ask_62 ?_
    refine r_gd (by exact hs) (fun g7 => ?_)
    refine r_iald dX12_ask_63 aM_52 (inb_in g7) rfl ?_
    refine r_iload dX12_ask_64 rfl ?_
    refine r_jL1 (j := 83) (lvj := fun y10 => [some (.ref (G.2.2.2 (0))), some (.int x1), none, some (.int c3), some (.int c4), some (.int c5), some (.int y10), some (.int c7)]) (stj := fun y10 => []) (Mj := fun y10 => M) (fun y10 => ?_) (fun hj83 => ?_)
    · refine r_iinc (y := c7 + 1) (lv' := [some (.ref (G.2.2.2 (0))), some (.int x1), none, some (.int c3), some (.int c4), some (.int c5), some (.int y10), some (.int (c7 + 1))]) dX12_ask_83 rfl rfl (Nat.le_of_ble_eq_true rfl) rfl rfl ?_
      refine r_goto (tgt := 46) dX12_ask_86 rfl ?_
      exact r_lk (ih y10 (c7 + 1)) (And.intro rfl (And.intro rfl (And.intro rfl (And.intro rfl (And.intro rfl (And.intro rfl (And.intro rfl True.intro)))))))
    refine r_icmp_le (tgt := 83) dX12_ask_66 rfl (fun h8 => ?_) (fun h8 => ?_)
    · exact r_lk (hj83 c6) (And.intro rfl (And.intro rfl (And.intro rfl (And.intro rfl (And.intro rfl (And.intro rfl (And.intro rfl True.intro)))))))
    refine r_aload_n dX12_ask_69 rfl ?_
    refine r_getf (v := .ref (G.2.2.2 (52))) dX12_ask_70 fM_0_77 kX12 (by decide) lkf_X12_170 rfl ?_
    refine r_iconst (x := 5) dX12_ask_73 rfl ?_
    refine r_iload dX12_ask_74 rfl ?_
    refine r_imul dX12_ask_76 ?_
    refine r_iload dX12_ask_77 rfl ?_
    refine r_iadd dX12_ask_79 ?_
    refine r_iald dX12_ask_80 aM_52 (inb_in g7) rfl ?_
    refine r_letI (fun y9 => ?_)
    refine r_istore (lv' := [some (.ref (G.2.2.2 (0))), some (.int x1), none, some (.int c3), some (.int c4), some (.int c5), some (.int y9), some (.int c7)]) dX12_ask_81 (Nat.le_of_ble_eq_true rfl) rfl rfl ?_
    exact r_lk (hj83 y9) (And.intro rfl (And.intro rfl (And.intro rfl (And.intro rfl (And.intro rfl (And.intro rfl (And.intro rfl True.intro)))))))
set_option maxRecDepth 100000 in
set_option maxHeartbeats 4000000 in
theorem X12_ask_L1_ok (G : Gh) (x1 : Int32) (M : Mem) {dn : Option (Int32 × Int32) → Option (Option Value × Mem)} (hs : dn none = none) (hx : ∀ (e18 : Int32) (e19 : Int32), Wr G mi_X12_ask dn 116 [none, some (.int x1), none, some (.int e18), some (.int e19), none, none, none] [] M (some (e18, e19))) : ∀ (n : Nat) (c3 : Int32) (c4 : Int32) (c5 : Int32), Wr G mi_X12_ask dn 24 [some (.ref (G.2.2.2 (0))), some (.int x1), none, some (.int c3), some (.int c4), some (.int c5), none, none] [] M (X12_ask_L1 M n c3 c4 c5) := by
  intro n
  induction n with
  | zero => intro c3 c4 c5; exact r_none (by exact hs)
  | succ n ih =>
    intro c3 c4 c5
    rw [X12_ask_L1]
    refine r_iload dX12_ask_24 rfl ?_
    refine r_aload_n dX12_ask_26 rfl ?_
    refine c_OI (by exact hs) (inv_V (mi := mi_X12_ask) (b := 0) (rest := [.int c5]) (X12_firsts_ok G M) rfl (by decide) dX12_ask_27 lkm_X12_552 cal_X12_firsts cM_0 rfl rfl (Nat.le_of_ble_eq_true rfl) rfl) (fun v3 => ?_)
    refine r_icmp_ge (tgt := 116) dX12_ask_30 rfl (fun h4 => ?_) (fun h4 => ?_)
    · exact r_lk (hx c3 c4) (And.intro rfl (And.intro rfl (And.intro rfl True.intro)))
    refine r_aload_n dX12_ask_33 rfl ?_
    refine r_getf (v := .int (M.1 0 80)) dX12_ask_34 fM_0_80 kX12 (by decide) lkf_X12_569 rfl ?_
    refine r_if_le (tgt := 116) dX12_ask_37 rfl (fun h5 => ?_) (fun h5 => ?_)
    · exact r_lk (hx c3 c4) (And.intro rfl (And.intro rfl (And.intro rfl True.intro)))
    refine r_iconst (x := 0) dX12_ask_40 rfl ?_
    refine r_istore (lv' := [some (.ref (G.2.2.2 (0))), some (.int x1), none, some (.int c3), some (.int c4), some (.int c5), some (.int 0), none]) dX12_ask_41 (Nat.le_of_ble_eq_true rfl) rfl rfl ?_
    refine r_iconst (x := 0) dX12_ask_43 rfl ?_
    refine r_istore (lv' := [some (.ref (G.2.2.2 (0))), some (.int x1), none, some (.int c3), some (.int c4), some (.int c5), some (.int 0), some (.int 0)]) dX12_ask_44 (Nat.le_of_ble_eq_true rfl) rfl rfl ?_
    refine r_jB1 (j := 89) (lvj := fun e11 => [some (.ref (G.2.2.2 (0))), some (.int x1), none, some (.int c3), some (.int c4), some (.int c5), some (.int e11), none]) (stj := fun e11 => []) (Mj := fun e11 => M) (fun e11 => ?_) (fun hj89 => ?_)
    · refine r_iload_n dX12_ask_89 rfl ?_
      refine r_jL2 (j := 110) (lvj := fun y16 y17 => [some (.ref (G.2.2.2 (0))), some (.int x1), none, some (.int y16), some (.int y17), some (.int c5), none, none]) (stj := fun y16 y17 => []) (Mj := fun y16 y17 => M) (fun y16 y17 => ?_) (fun hj110 => ?_)
      · refine r_iinc (y := c5 + 1) (lv' := [some (.ref (G.2.2.2 (0))), some (.int x1), none, some (.int y16), some (.int y17), some (.int (c5 + 1)), none, none]) dX12_ask_110 rfl rfl (Nat.le_of_ble_eq_true rfl) rfl rfl ?_
        refine r_goto (tgt := 24) dX12_ask_113 rfl ?_
        exact r_lk (ih y16 y17 (c5 + 1)) (And.intro rfl (And.intro rfl (And.intro rfl (And.intro rfl (And.intro rfl True.intro)))))
      refine r_cL (jX := 103) (jY := 100) (lvX := [some (.ref (G.2.2.2 (0))), some (.int x1), none, none, none, some (.int c5), some (.int e11), none]) (lvY := [some (.ref (G.2.2.2 (0))), some (.int x1), none, some (.int c3), some (.int c4), some (.int c5), none, none]) (stX := []) (M1 := M) (fun h15 => ?_) (fun h15 => ?_) (fun hX103 hY100 => ?_)
      · refine r_eq (if_pos rfl) ?_
        refine r_iload dX12_ask_103 rfl ?_
        refine r_istore_n (lv' := [some (.ref (G.2.2.2 (0))), some (.int x1), none, some (.int c5), none, some (.int c5), some (.int e11), none]) dX12_ask_105 (Nat.le_of_ble_eq_true rfl) rfl rfl ?_
        refine r_iload dX12_ask_106 rfl ?_
        refine r_istore (lv' := [some (.ref (G.2.2.2 (0))), some (.int x1), none, some (.int c5), some (.int e11), some (.int c5), some (.int e11), none]) dX12_ask_108 (Nat.le_of_ble_eq_true rfl) rfl rfl ?_
        exact r_lk (hj110 c5 e11) (And.intro rfl (And.intro rfl (And.intro rfl (And.intro rfl (And.intro rfl True.intro)))))
      · refine r_eq (if_neg (by decide)) ?_
        refine r_goto (tgt := 110) dX12_ask_100 rfl ?_
        exact r_lk (hj110 c3 c4) (And.intro rfl (And.intro rfl (And.intro rfl (And.intro rfl (And.intro rfl True.intro)))))
      refine r_if_lt (tgt := 103) dX12_ask_90 rfl (fun h12 => ?_) (fun h12 => ?_)
      · exact r_lk hX103 (And.intro rfl (And.intro rfl (And.intro rfl (And.intro rfl True.intro))))
      refine r_iload dX12_ask_93 rfl ?_
      refine r_iload dX12_ask_95 rfl ?_
      refine r_icmp_lt (tgt := 103) dX12_ask_97 rfl (fun h13 => ?_) (fun h13 => ?_)
      · exact r_lk hX103 (And.intro rfl (And.intro rfl (And.intro rfl (And.intro rfl True.intro))))
      exact r_lk hY100 (And.intro rfl (And.intro rfl (And.intro rfl (And.intro rfl (And.intro rfl True.intro)))))
    exact r_lk (X12_ask_L2_ok G x1 c3 c4 c5 M (by exact hs) hj89 zFU 0 0) (And.intro rfl (And.intro rfl (And.intro rfl (And.intro rfl (And.intro rfl (And.intro rfl (And.intro rfl True.intro)))))))
set_option maxRecDepth 100000 in
set_option maxHeartbeats 4000000 in
theorem X12_ask_ok (G : Gh) (x1 : Int32) (x2 : Int32) (M : Mem) : Mt G mi_X12_ask [.ref (G.2.2.2 (0)), .int x1, .int x2] M ((dO dIM) (X12_ask x1 x2 M)) := by
  refine Mt_of (lv := [some (.ref (G.2.2.2 (0))), some (.int x1), some (.int x2)]) (by decide) rfl (Nat.le_of_ble_eq_true rfl) rfl ?_
  refine r_le (lv' := [some (.ref (G.2.2.2 (0))), some (.int x1), some (.int x2), none, none, none, none, none]) (And.intro rfl (And.intro rfl (And.intro rfl True.intro))) ?_
  unfold X12_ask
  refine r_iload_n dX12_ask_0 rfl ?_
  refine r_iconst (x := 0) dX12_ask_1 rfl ?_
  refine r_iconst (x := 1) dX12_ask_2 rfl ?_
  refine c_Z (inv_S (mi := mi_X12_ask) (rest := []) (X12_isIn_ok G x1 0 1 M) rfl (by decide) dX12_ask_3 lkm_X12_401 cal_X12_isIn rfl (Nat.le_of_ble_eq_true rfl) rfl) ?_
  refine r_ifz_ne (tgt := 11) dX12_ask_6 rfl (fun h1 => ?_) (fun h1 => ?_)
  · refine r_aload_n dX12_ask_11 rfl ?_
    refine r_iload_n dX12_ask_12 rfl ?_
    refine c_OV rfl (inv_V (mi := mi_X12_ask) (b := 0) (rest := []) (X12_layOrders_ok G x2 M) rfl (by decide) dX12_ask_13 lkm_X12_578 cal_X12_layOrders cM_0 rfl rfl (Nat.le_of_ble_eq_true rfl) rfl) (fun M2 => ?_)
    refine r_iconst (x := (-1)) dX12_ask_16 rfl ?_
    refine r_istore_n (lv' := [some (.ref (G.2.2.2 (0))), some (.int x1), some (.int x2), some (.int ((-1))), none, none, none, none]) dX12_ask_17 (Nat.le_of_ble_eq_true rfl) rfl rfl ?_
    refine r_iconst (x := 0) dX12_ask_18 rfl ?_
    refine r_istore (lv' := [some (.ref (G.2.2.2 (0))), some (.int x1), some (.int x2), some (.int ((-1))), some (.int 0), none, none, none]) dX12_ask_19 (Nat.le_of_ble_eq_true rfl) rfl rfl ?_
    refine r_iconst (x := 0) dX12_ask_21 rfl ?_
    refine r_istore (lv' := [some (.ref (G.2.2.2 (0))), some (.int x1), some (.int x2), some (.int ((-1))), some (.int 0), some (.int 0), none, none]) dX12_ask_22 (Nat.le_of_ble_eq_true rfl) rfl rfl ?_
    refine r_jB2 (j := 116) (lvj := fun e18 e19 => [none, some (.int x1), none, some (.int e18), some (.int e19), none, none, none]) (stj := fun e18 e19 => []) (Mj := fun e18 e19 => M2) (fun e18 e19 => ?_) (fun hj116 => ?_)
    · refine r_iload_n dX12_ask_116 rfl ?_
      refine r_if_ge (tgt := 124) dX12_ask_117 rfl (fun h20 => ?_) (fun h20 => ?_)
      · refine r_iload_n dX12_ask_124 rfl ?_
        refine r_if_ne (tgt := 132) dX12_ask_125 rfl (fun h21 => ?_) (fun h21 => ?_)
        · refine r_iload_n dX12_ask_128 rfl ?_
          refine r_goto (tgt := 134) dX12_ask_129 rfl ?_
          exact r_iret (ty := .int) dX12_ask_134 rfl rfl rfl
        refine r_iload dX12_ask_132 rfl ?_
        exact r_iret (ty := .int) dX12_ask_134 rfl rfl rfl
      refine r_iconst (x := (-1)) dX12_ask_120 rfl ?_
      refine r_goto (tgt := 134) dX12_ask_121 rfl ?_
      exact r_iret (ty := .int) dX12_ask_134 rfl rfl rfl
    exact r_lk (X12_ask_L1_ok G x1 M2 rfl hj116 zFU (-1) 0 0) (And.intro rfl (And.intro rfl (And.intro rfl (And.intro rfl (And.intro rfl True.intro)))))
  refine r_iconst (x := (-1)) dX12_ask_9 rfl ?_
  exact r_iret (ty := .int) dX12_ask_10 rfl rfl rfl

theorem dX12_image_0 : decode cX12_image 0 = .ok (.iload_n 1, 1) := by decide +kernel
theorem dX12_image_1 : decode cX12_image 1 = .ok (.iconst 0, 1) := by decide +kernel
theorem dX12_image_2 : decode cX12_image 2 = .ok (.iconst 2, 1) := by decide +kernel
theorem dX12_image_3 : decode cX12_image 3 = .ok (.invokestatic 401, 3) := by decide +kernel
theorem dX12_image_6 : decode cX12_image 6 = .ok (.ifCond .ne 5, 3) := by decide +kernel
theorem dX12_image_9 : decode cX12_image 9 = .ok (.iconst (-1), 1) := by decide +kernel
theorem dX12_image_10 : decode cX12_image 10 = .ok (.ireturn, 1) := by decide +kernel
theorem dX12_image_11 : decode cX12_image 11 = .ok (.iconst 0, 1) := by decide +kernel
theorem dX12_image_12 : decode cX12_image 12 = .ok (.istore_n 2, 1) := by decide +kernel
theorem dX12_image_13 : decode cX12_image 13 = .ok (.iload_n 2, 1) := by decide +kernel
theorem dX12_image_14 : decode cX12_image 14 = .ok (.bipush 42, 2) := by decide +kernel
theorem dX12_image_16 : decode cX12_image 16 = .ok (.if_icmp .ge 26, 3) := by decide +kernel
theorem dX12_image_19 : decode cX12_image 19 = .ok (.aload_n 0, 1) := by decide +kernel
theorem dX12_image_20 : decode cX12_image 20 = .ok (.getfield 173, 3) := by decide +kernel
theorem dX12_image_23 : decode cX12_image 23 = .ok (.bipush 42, 2) := by decide +kernel
theorem dX12_image_25 : decode cX12_image 25 = .ok (.iload_n 1, 1) := by decide +kernel
theorem dX12_image_26 : decode cX12_image 26 = .ok (.imul, 1) := by decide +kernel
theorem dX12_image_27 : decode cX12_image 27 = .ok (.iload_n 2, 1) := by decide +kernel
theorem dX12_image_28 : decode cX12_image 28 = .ok (.iadd, 1) := by decide +kernel
theorem dX12_image_29 : decode cX12_image 29 = .ok (.aload_n 0, 1) := by decide +kernel
theorem dX12_image_30 : decode cX12_image 30 = .ok (.getfield 113, 3) := by decide +kernel
theorem dX12_image_33 : decode cX12_image 33 = .ok (.iload_n 2, 1) := by decide +kernel
theorem dX12_image_34 : decode cX12_image 34 = .ok (.iaload, 1) := by decide +kernel
theorem dX12_image_35 : decode cX12_image 35 = .ok (.iastore, 1) := by decide +kernel
theorem dX12_image_36 : decode cX12_image 36 = .ok (.iinc 2 1, 3) := by decide +kernel
theorem dX12_image_39 : decode cX12_image 39 = .ok (.goto (-26), 3) := by decide +kernel
theorem dX12_image_42 : decode cX12_image 42 = .ok (.aload_n 0, 1) := by decide +kernel
theorem dX12_image_43 : decode cX12_image 43 = .ok (.getfield 176, 3) := by decide +kernel
theorem dX12_image_46 : decode cX12_image 46 = .ok (.iload_n 1, 1) := by decide +kernel
theorem dX12_image_47 : decode cX12_image 47 = .ok (.iconst 1, 1) := by decide +kernel
theorem dX12_image_48 : decode cX12_image 48 = .ok (.bastore, 1) := by decide +kernel
theorem dX12_image_49 : decode cX12_image 49 = .ok (.aload_n 0, 1) := by decide +kernel
theorem dX12_image_50 : decode cX12_image 50 = .ok (.getfield 113, 3) := by decide +kernel
theorem dX12_image_53 : decode cX12_image 53 = .ok (.bipush 40, 2) := by decide +kernel
theorem dX12_image_55 : decode cX12_image 55 = .ok (.iaload, 1) := by decide +kernel
theorem dX12_image_56 : decode cX12_image 56 = .ok (.ireturn, 1) := by decide +kernel
abbrev mi_X12_image : MI := (zTM, RX12, yX12_image, cX12_image, 3, (some .int), 3)
theorem cal_X12_image : zCalV mi_X12_image 1 := ⟨⟨zTB_i9 120 (by decide +kernel), zTB_i9 118 (by decide +kernel), zTB_i9 119 (by decide +kernel), zTB_i1 13 (by decide +kernel)⟩, ⟨by decide, by decide, by decide +kernel⟩, by decide⟩
noncomputable def X12_image_L1 (x1 : Int32) : Nat → Int32 → Mem → Option (Mem)
  | 0, _, _ => none
  | n + 1, c2, M =>
    if 42 ≤ c2 then
      some M
    else
    gd_ (inb c2 (42) = true) (
    gd_ (inb ((42 * x1) + c2) (126) = true) (
    lt_ (uI M 53 (((42 * x1) + c2).toNatClampNeg) (M.1 33 c2.toNatClampNeg)) fun M5 =>
    X12_image_L1 x1 n (c2 + 1) M5))
noncomputable def X12_image (x1 : Int32) (M : Mem) : Option (Int32 × Mem) :=
  if (X12_isIn x1 0 2) = true then
    b1_ (α := Mem) (X12_image_L1 x1 zFU 0 M) fun M6 =>
    gd_ (inb x1 (3) = true) (
    lt_ (uI M6 54 x1.toNatClampNeg 1) fun M8 =>
    some (M8.1 33 40, M8))
  else
  some ((-1), M)
set_option maxRecDepth 100000 in
set_option maxHeartbeats 4000000 in
theorem X12_image_L1_ok (G : Gh) (x1 : Int32) {dn : Option (Mem) → Option (Option Value × Mem)} (hs : dn none = none) (hx : ∀ (M6 : Mem), Wr G mi_X12_image dn 42 [some (.ref (G.2.2.2 (0))), some (.int x1), none] [] M6 (some M6)) : ∀ (n : Nat) (c2 : Int32) (M : Mem), Wr G mi_X12_image dn 13 [some (.ref (G.2.2.2 (0))), some (.int x1), some (.int c2)] [] M (X12_image_L1 x1 n c2 M) := by
  intro n
  induction n with
  | zero => intro c2 M; exact r_none (by exact hs)
  | succ n ih =>
    intro c2 M
    rw [X12_image_L1]
    refine r_iload_n dX12_image_13 rfl ?_
    refine r_bipush (x := 42) dX12_image_14 rfl ?_
    refine r_icmp_ge (tgt := 42) dX12_image_16 rfl (fun h2 => ?_) (fun h2 => ?_)
    · exact r_lk (hx M) (And.intro rfl (And.intro rfl True.intro))
    refine r_aload_n dX12_image_19 rfl ?_
    refine r_getf (v := .ref (G.2.2.2 (53))) dX12_image_20 fM_0_81 kX12 (by decide) lkf_X12_173 rfl ?_
    refine r_bipush (x := 42) dX12_image_23 rfl ?_
    refine r_iload_n dX12_image_25 rfl ?_
    refine r_imul dX12_image_26 ?_
    refine r_iload_n dX12_image_27 rfl ?_
    refine r_iadd dX12_image_28 ?_
    refine r_aload_n dX12_image_29 rfl ?_
    refine r_getf (v := .ref (G.2.2.2 (33))) dX12_image_30 fM_0_48 kX12 (by decide) lkf_X12_113 rfl ?_
    refine r_iload_n dX12_image_33 rfl ?_
    refine r_gd (by exact hs) (fun g3 => ?_)
    refine r_iald dX12_image_34 aM_33 (inb_in g3) rfl ?_
    refine r_gd (by exact hs) (fun g4 => ?_)
    refine r_iast dX12_image_35 aM_53 (inb_in g4) rfl (fun M5 => ?_)
    refine r_iinc (y := c2 + 1) (lv' := [some (.ref (G.2.2.2 (0))), some (.int x1), some (.int (c2 + 1))]) dX12_image_36 rfl rfl (Nat.le_of_ble_eq_true rfl) rfl rfl ?_
    refine r_goto (tgt := 13) dX12_image_39 rfl ?_
    exact r_lk (ih (c2 + 1) M5) (And.intro rfl (And.intro rfl (And.intro rfl True.intro)))
set_option maxRecDepth 100000 in
set_option maxHeartbeats 4000000 in
theorem X12_image_ok (G : Gh) (x1 : Int32) (M : Mem) : Mt G mi_X12_image [.ref (G.2.2.2 (0)), .int x1] M ((dO dIM) (X12_image x1 M)) := by
  refine Mt_of (lv := [some (.ref (G.2.2.2 (0))), some (.int x1)]) (by decide) rfl (Nat.le_of_ble_eq_true rfl) rfl ?_
  refine r_le (lv' := [some (.ref (G.2.2.2 (0))), some (.int x1), none]) (And.intro rfl (And.intro rfl True.intro)) ?_
  unfold X12_image
  refine r_iload_n dX12_image_0 rfl ?_
  refine r_iconst (x := 0) dX12_image_1 rfl ?_
  refine r_iconst (x := 2) dX12_image_2 rfl ?_
  refine c_Z (inv_S (mi := mi_X12_image) (rest := []) (X12_isIn_ok G x1 0 2 M) rfl (by decide) dX12_image_3 lkm_X12_401 cal_X12_isIn rfl (Nat.le_of_ble_eq_true rfl) rfl) ?_
  refine r_ifz_ne (tgt := 11) dX12_image_6 rfl (fun h1 => ?_) (fun h1 => ?_)
  · refine r_iconst (x := 0) dX12_image_11 rfl ?_
    refine r_istore_n (lv' := [some (.ref (G.2.2.2 (0))), some (.int x1), some (.int 0)]) dX12_image_12 (Nat.le_of_ble_eq_true rfl) rfl rfl ?_
    refine r_jB1 (j := 42) (lvj := fun M6 => [some (.ref (G.2.2.2 (0))), some (.int x1), none]) (stj := fun M6 => []) (Mj := fun M6 => M6) (fun M6 => ?_) (fun hj42 => ?_)
    · refine r_aload_n dX12_image_42 rfl ?_
      refine r_getf (v := .ref (G.2.2.2 (54))) dX12_image_43 fM_0_82 kX12 (by decide) lkf_X12_176 rfl ?_
      refine r_iload_n dX12_image_46 rfl ?_
      refine r_iconst (x := 1) dX12_image_47 rfl ?_
      refine r_gd rfl (fun g7 => ?_)
      refine r_zast dX12_image_48 aM_54 (inb_in g7) rfl (y := 1) rfl (fun M8 => ?_)
      refine r_aload_n dX12_image_49 rfl ?_
      refine r_getf (v := .ref (G.2.2.2 (33))) dX12_image_50 fM_0_48 kX12 (by decide) lkf_X12_113 rfl ?_
      refine r_bipush (x := 40) dX12_image_53 rfl ?_
      refine r_iald dX12_image_55 aM_33 (inb_in (i := 40) (n := 42) rfl) (m := 40) rfl ?_
      exact r_iret (ty := .int) dX12_image_56 rfl rfl rfl
    exact r_lk (X12_image_L1_ok G x1 rfl hj42 zFU 0 M) (And.intro rfl (And.intro rfl (And.intro rfl True.intro)))
  refine r_iconst (x := (-1)) dX12_image_9 rfl ?_
  exact r_iret (ty := .int) dX12_image_10 rfl rfl rfl

theorem dX12_back_0 : decode cX12_back 0 = .ok (.iload_n 1, 1) := by decide +kernel
theorem dX12_back_1 : decode cX12_back 1 = .ok (.iconst 0, 1) := by decide +kernel
theorem dX12_back_2 : decode cX12_back 2 = .ok (.iconst 2, 1) := by decide +kernel
theorem dX12_back_3 : decode cX12_back 3 = .ok (.invokestatic 401, 3) := by decide +kernel
theorem dX12_back_6 : decode cX12_back 6 = .ok (.ifCond .eq 12, 3) := by decide +kernel
theorem dX12_back_9 : decode cX12_back 9 = .ok (.aload_n 0, 1) := by decide +kernel
theorem dX12_back_10 : decode cX12_back 10 = .ok (.getfield 176, 3) := by decide +kernel
theorem dX12_back_13 : decode cX12_back 13 = .ok (.iload_n 1, 1) := by decide +kernel
theorem dX12_back_14 : decode cX12_back 14 = .ok (.baload, 1) := by decide +kernel
theorem dX12_back_15 : decode cX12_back 15 = .ok (.ifCond .ne 5, 3) := by decide +kernel
theorem dX12_back_18 : decode cX12_back 18 = .ok (.iconst (-1), 1) := by decide +kernel
theorem dX12_back_19 : decode cX12_back 19 = .ok (.ireturn, 1) := by decide +kernel
theorem dX12_back_20 : decode cX12_back 20 = .ok (.iconst 0, 1) := by decide +kernel
theorem dX12_back_21 : decode cX12_back 21 = .ok (.istore_n 2, 1) := by decide +kernel
theorem dX12_back_22 : decode cX12_back 22 = .ok (.iload_n 2, 1) := by decide +kernel
theorem dX12_back_23 : decode cX12_back 23 = .ok (.bipush 42, 2) := by decide +kernel
theorem dX12_back_25 : decode cX12_back 25 = .ok (.if_icmp .ge 26, 3) := by decide +kernel
theorem dX12_back_28 : decode cX12_back 28 = .ok (.aload_n 0, 1) := by decide +kernel
theorem dX12_back_29 : decode cX12_back 29 = .ok (.getfield 113, 3) := by decide +kernel
theorem dX12_back_32 : decode cX12_back 32 = .ok (.iload_n 2, 1) := by decide +kernel
theorem dX12_back_33 : decode cX12_back 33 = .ok (.aload_n 0, 1) := by decide +kernel
theorem dX12_back_34 : decode cX12_back 34 = .ok (.getfield 173, 3) := by decide +kernel
theorem dX12_back_37 : decode cX12_back 37 = .ok (.bipush 42, 2) := by decide +kernel
theorem dX12_back_39 : decode cX12_back 39 = .ok (.iload_n 1, 1) := by decide +kernel
theorem dX12_back_40 : decode cX12_back 40 = .ok (.imul, 1) := by decide +kernel
theorem dX12_back_41 : decode cX12_back 41 = .ok (.iload_n 2, 1) := by decide +kernel
theorem dX12_back_42 : decode cX12_back 42 = .ok (.iadd, 1) := by decide +kernel
theorem dX12_back_43 : decode cX12_back 43 = .ok (.iaload, 1) := by decide +kernel
theorem dX12_back_44 : decode cX12_back 44 = .ok (.iastore, 1) := by decide +kernel
theorem dX12_back_45 : decode cX12_back 45 = .ok (.iinc 2 1, 3) := by decide +kernel
theorem dX12_back_48 : decode cX12_back 48 = .ok (.goto (-26), 3) := by decide +kernel
theorem dX12_back_51 : decode cX12_back 51 = .ok (.aload_n 0, 1) := by decide +kernel
theorem dX12_back_52 : decode cX12_back 52 = .ok (.iconst 0, 1) := by decide +kernel
theorem dX12_back_53 : decode cX12_back 53 = .ok (.putfield 405, 3) := by decide +kernel
theorem dX12_back_56 : decode cX12_back 56 = .ok (.aload_n 0, 1) := by decide +kernel
theorem dX12_back_57 : decode cX12_back 57 = .ok (.iconst 0, 1) := by decide +kernel
theorem dX12_back_58 : decode cX12_back 58 = .ok (.putfield 408, 3) := by decide +kernel
theorem dX12_back_61 : decode cX12_back 61 = .ok (.aload_n 0, 1) := by decide +kernel
theorem dX12_back_62 : decode cX12_back 62 = .ok (.getfield 113, 3) := by decide +kernel
theorem dX12_back_65 : decode cX12_back 65 = .ok (.bipush 40, 2) := by decide +kernel
theorem dX12_back_67 : decode cX12_back 67 = .ok (.iaload, 1) := by decide +kernel
theorem dX12_back_68 : decode cX12_back 68 = .ok (.ireturn, 1) := by decide +kernel
abbrev mi_X12_back : MI := (zTM, RX12, yX12_back, cX12_back, 3, (some .int), 3)
theorem cal_X12_back : zCalV mi_X12_back 1 := ⟨⟨zTB_i9 124 (by decide +kernel), zTB_i9 122 (by decide +kernel), zTB_i9 123 (by decide +kernel), zTB_i1 13 (by decide +kernel)⟩, ⟨by decide, by decide, by decide +kernel⟩, by decide⟩
noncomputable def X12_back_L1 (x1 : Int32) : Nat → Int32 → Mem → Option (Mem)
  | 0, _, _ => none
  | n + 1, c2, M =>
    if 42 ≤ c2 then
      some M
    else
    gd_ (inb ((42 * x1) + c2) (126) = true) (
    gd_ (inb c2 (42) = true) (
    lt_ (uI M 33 c2.toNatClampNeg (M.1 53 (((42 * x1) + c2).toNatClampNeg))) fun M7 =>
    X12_back_L1 x1 n (c2 + 1) M7))
noncomputable def X12_back (x1 : Int32) (M : Mem) : Option (Int32 × Mem) :=
  if (X12_isIn x1 0 2) = true then
    gd_ (inb x1 (3) = true) (
    if (M.1 54 x1.toNatClampNeg) = 0 then
      some ((-1), M)
    else
    b1_ (α := Mem) (X12_back_L1 x1 zFU 0 M) fun M8 =>
    lt_ (uI M8 0 50 0) fun M9 =>
    lt_ (uI M9 0 51 0) fun M10 =>
    some (M10.1 33 40, M10))
  else
  some ((-1), M)
set_option maxRecDepth 100000 in
set_option maxHeartbeats 4000000 in
theorem X12_back_L1_ok (G : Gh) (x1 : Int32) {dn : Option (Mem) → Option (Option Value × Mem)} (hs : dn none = none) (hx : ∀ (M8 : Mem), Wr G mi_X12_back dn 51 [some (.ref (G.2.2.2 (0))), none, none] [] M8 (some M8)) : ∀ (n : Nat) (c2 : Int32) (M : Mem), Wr G mi_X12_back dn 22 [some (.ref (G.2.2.2 (0))), some (.int x1), some (.int c2)] [] M (X12_back_L1 x1 n c2 M) := by
  intro n
  induction n with
  | zero => intro c2 M; exact r_none (by exact hs)
  | succ n ih =>
    intro c2 M
    rw [X12_back_L1]
    refine r_iload_n dX12_back_22 rfl ?_
    refine r_bipush (x := 42) dX12_back_23 rfl ?_
    refine r_icmp_ge (tgt := 51) dX12_back_25 rfl (fun h4 => ?_) (fun h4 => ?_)
    · exact r_lk (hx M) (And.intro rfl True.intro)
    refine r_aload_n dX12_back_28 rfl ?_
    refine r_getf (v := .ref (G.2.2.2 (33))) dX12_back_29 fM_0_48 kX12 (by decide) lkf_X12_113 rfl ?_
    refine r_iload_n dX12_back_32 rfl ?_
    refine r_aload_n dX12_back_33 rfl ?_
    refine r_getf (v := .ref (G.2.2.2 (53))) dX12_back_34 fM_0_81 kX12 (by decide) lkf_X12_173 rfl ?_
    refine r_bipush (x := 42) dX12_back_37 rfl ?_
    refine r_iload_n dX12_back_39 rfl ?_
    refine r_imul dX12_back_40 ?_
    refine r_iload_n dX12_back_41 rfl ?_
    refine r_iadd dX12_back_42 ?_
    refine r_gd (by exact hs) (fun g5 => ?_)
    refine r_iald dX12_back_43 aM_53 (inb_in g5) rfl ?_
    refine r_gd (by exact hs) (fun g6 => ?_)
    refine r_iast dX12_back_44 aM_33 (inb_in g6) rfl (fun M7 => ?_)
    refine r_iinc (y := c2 + 1) (lv' := [some (.ref (G.2.2.2 (0))), some (.int x1), some (.int (c2 + 1))]) dX12_back_45 rfl rfl (Nat.le_of_ble_eq_true rfl) rfl rfl ?_
    refine r_goto (tgt := 22) dX12_back_48 rfl ?_
    exact r_lk (ih (c2 + 1) M7) (And.intro rfl (And.intro rfl (And.intro rfl True.intro)))
set_option maxRecDepth 100000 in
set_option maxHeartbeats 4000000 in
theorem X12_back_ok (G : Gh) (x1 : Int32) (M : Mem) : Mt G mi_X12_back [.ref (G.2.2.2 (0)), .int x1] M ((dO dIM) (X12_back x1 M)) := by
  refine Mt_of (lv := [some (.ref (G.2.2.2 (0))), some (.int x1)]) (by decide) rfl (Nat.le_of_ble_eq_true rfl) rfl ?_
  refine r_le (lv' := [some (.ref (G.2.2.2 (0))), some (.int x1), none]) (And.intro rfl (And.intro rfl True.intro)) ?_
  unfold X12_back
  refine r_iload_n dX12_back_0 rfl ?_
  refine r_iconst (x := 0) dX12_back_1 rfl ?_
  refine r_iconst (x := 2) dX12_back_2 rfl ?_
  refine c_Z (inv_S (mi := mi_X12_back) (rest := []) (X12_isIn_ok G x1 0 2 M) rfl (by decide) dX12_back_3 lkm_X12_401 cal_X12_isIn rfl (Nat.le_of_ble_eq_true rfl) rfl) ?_
  refine r_ifz_eq (tgt := 18) dX12_back_6 rfl (fun h1 => ?_) (fun h1 => ?_)
  · refine r_aload_n dX12_back_9 rfl ?_
    refine r_getf (v := .ref (G.2.2.2 (54))) dX12_back_10 fM_0_82 kX12 (by decide) lkf_X12_176 rfl ?_
    refine r_iload_n dX12_back_13 rfl ?_
    refine r_gd rfl (fun g2 => ?_)
    refine r_zald dX12_back_14 aM_54 (inb_in g2) rfl ?_
    refine r_if_ne (tgt := 20) dX12_back_15 rfl (fun h3 => ?_) (fun h3 => ?_)
    · refine r_iconst (x := (-1)) dX12_back_18 rfl ?_
      exact r_iret (ty := .int) dX12_back_19 rfl rfl rfl
    refine r_iconst (x := 0) dX12_back_20 rfl ?_
    refine r_istore_n (lv' := [some (.ref (G.2.2.2 (0))), some (.int x1), some (.int 0)]) dX12_back_21 (Nat.le_of_ble_eq_true rfl) rfl rfl ?_
    refine r_jB1 (j := 51) (lvj := fun M8 => [some (.ref (G.2.2.2 (0))), none, none]) (stj := fun M8 => []) (Mj := fun M8 => M8) (fun M8 => ?_) (fun hj51 => ?_)
    · refine r_aload_n dX12_back_51 rfl ?_
      refine r_iconst (x := 0) dX12_back_52 rfl ?_
      refine r_putI dX12_back_53 fM_0_50 kX12 (by decide) rfl rfl lkf_X12_405 (fun _ => rfl) rfl rfl (fun M9 => ?_)
      refine r_aload_n dX12_back_56 rfl ?_
      refine r_iconst (x := 0) dX12_back_57 rfl ?_
      refine r_putI dX12_back_58 fM_0_51 kX12 (by decide) rfl rfl lkf_X12_408 (fun _ => rfl) rfl rfl (fun M10 => ?_)
      refine r_aload_n dX12_back_61 rfl ?_
      refine r_getf (v := .ref (G.2.2.2 (33))) dX12_back_62 fM_0_48 kX12 (by decide) lkf_X12_113 rfl ?_
      refine r_bipush (x := 40) dX12_back_65 rfl ?_
      refine r_iald dX12_back_67 aM_33 (inb_in (i := 40) (n := 42) rfl) (m := 40) rfl ?_
      exact r_iret (ty := .int) dX12_back_68 rfl rfl rfl
    exact r_lk (X12_back_L1_ok G x1 rfl hj51 zFU 0 M) (And.intro rfl (And.intro rfl (And.intro rfl True.intro)))
  refine r_iconst (x := (-1)) dX12_back_18 rfl ?_
  exact r_iret (ty := .int) dX12_back_19 rfl rfl rfl

theorem dX12_about_0 : decode cX12_about 0 = .ok (.iload_n 1, 1) := by decide +kernel
theorem dX12_about_1 : decode cX12_about 1 = .ok (.tableswitch 172 0 13 #[71, 76, 86, 96, 106, 114, 122, 132, 137, 142, 147, 152, 157, 167], 71) := by decide +kernel
theorem dX12_about_72 : decode cX12_about 72 = .ok (.aload_n 0, 1) := by decide +kernel
theorem dX12_about_73 : decode cX12_about 73 = .ok (.invokevirtual 398, 3) := by decide +kernel
theorem dX12_about_76 : decode cX12_about 76 = .ok (.ireturn, 1) := by decide +kernel
theorem dX12_about_77 : decode cX12_about 77 = .ok (.aload_n 0, 1) := by decide +kernel
theorem dX12_about_78 : decode cX12_about 78 = .ok (.getfield 20, 3) := by decide +kernel
theorem dX12_about_81 : decode cX12_about 81 = .ok (.aload_n 0, 1) := by decide +kernel
theorem dX12_about_82 : decode cX12_about 82 = .ok (.getfield 301, 3) := by decide +kernel
theorem dX12_about_85 : decode cX12_about 85 = .ok (.iaload, 1) := by decide +kernel
theorem dX12_about_86 : decode cX12_about 86 = .ok (.ireturn, 1) := by decide +kernel
theorem dX12_about_87 : decode cX12_about 87 = .ok (.aload_n 0, 1) := by decide +kernel
theorem dX12_about_88 : decode cX12_about 88 = .ok (.getfield 27, 3) := by decide +kernel
theorem dX12_about_91 : decode cX12_about 91 = .ok (.aload_n 0, 1) := by decide +kernel
theorem dX12_about_92 : decode cX12_about 92 = .ok (.getfield 301, 3) := by decide +kernel
theorem dX12_about_95 : decode cX12_about 95 = .ok (.iaload, 1) := by decide +kernel
theorem dX12_about_96 : decode cX12_about 96 = .ok (.ireturn, 1) := by decide +kernel
theorem dX12_about_97 : decode cX12_about 97 = .ok (.aload_n 0, 1) := by decide +kernel
theorem dX12_about_98 : decode cX12_about 98 = .ok (.getfield 30, 3) := by decide +kernel
theorem dX12_about_101 : decode cX12_about 101 = .ok (.aload_n 0, 1) := by decide +kernel
theorem dX12_about_102 : decode cX12_about 102 = .ok (.getfield 301, 3) := by decide +kernel
theorem dX12_about_105 : decode cX12_about 105 = .ok (.iaload, 1) := by decide +kernel
theorem dX12_about_106 : decode cX12_about 106 = .ok (.ireturn, 1) := by decide +kernel
theorem dX12_about_107 : decode cX12_about 107 = .ok (.aload_n 0, 1) := by decide +kernel
theorem dX12_about_108 : decode cX12_about 108 = .ok (.getfield 113, 3) := by decide +kernel
theorem dX12_about_111 : decode cX12_about 111 = .ok (.bipush 40, 2) := by decide +kernel
theorem dX12_about_113 : decode cX12_about 113 = .ok (.iaload, 1) := by decide +kernel
theorem dX12_about_114 : decode cX12_about 114 = .ok (.ireturn, 1) := by decide +kernel
theorem dX12_about_115 : decode cX12_about 115 = .ok (.aload_n 0, 1) := by decide +kernel
theorem dX12_about_116 : decode cX12_about 116 = .ok (.getfield 113, 3) := by decide +kernel
theorem dX12_about_119 : decode cX12_about 119 = .ok (.bipush 41, 2) := by decide +kernel
theorem dX12_about_121 : decode cX12_about 121 = .ok (.iaload, 1) := by decide +kernel
theorem dX12_about_122 : decode cX12_about 122 = .ok (.ireturn, 1) := by decide +kernel
theorem dX12_about_123 : decode cX12_about 123 = .ok (.aload_n 0, 1) := by decide +kernel
theorem dX12_about_124 : decode cX12_about 124 = .ok (.getfield 36, 3) := by decide +kernel
theorem dX12_about_127 : decode cX12_about 127 = .ok (.aload_n 0, 1) := by decide +kernel
theorem dX12_about_128 : decode cX12_about 128 = .ok (.getfield 301, 3) := by decide +kernel
theorem dX12_about_131 : decode cX12_about 131 = .ok (.iaload, 1) := by decide +kernel
theorem dX12_about_132 : decode cX12_about 132 = .ok (.ireturn, 1) := by decide +kernel
theorem dX12_about_133 : decode cX12_about 133 = .ok (.aload_n 0, 1) := by decide +kernel
theorem dX12_about_134 : decode cX12_about 134 = .ok (.getfield 405, 3) := by decide +kernel
theorem dX12_about_137 : decode cX12_about 137 = .ok (.ireturn, 1) := by decide +kernel
theorem dX12_about_138 : decode cX12_about 138 = .ok (.aload_n 0, 1) := by decide +kernel
theorem dX12_about_139 : decode cX12_about 139 = .ok (.getfield 408, 3) := by decide +kernel
theorem dX12_about_142 : decode cX12_about 142 = .ok (.ireturn, 1) := by decide +kernel
theorem dX12_about_143 : decode cX12_about 143 = .ok (.aload_n 0, 1) := by decide +kernel
theorem dX12_about_144 : decode cX12_about 144 = .ok (.getfield 411, 3) := by decide +kernel
theorem dX12_about_147 : decode cX12_about 147 = .ok (.ireturn, 1) := by decide +kernel
theorem dX12_about_148 : decode cX12_about 148 = .ok (.aload_n 0, 1) := by decide +kernel
theorem dX12_about_149 : decode cX12_about 149 = .ok (.getfield 555, 3) := by decide +kernel
theorem dX12_about_152 : decode cX12_about 152 = .ok (.ireturn, 1) := by decide +kernel
theorem dX12_about_153 : decode cX12_about 153 = .ok (.aload_n 0, 1) := by decide +kernel
theorem dX12_about_154 : decode cX12_about 154 = .ok (.getfield 298, 3) := by decide +kernel
theorem dX12_about_157 : decode cX12_about 157 = .ok (.ireturn, 1) := by decide +kernel
theorem dX12_about_158 : decode cX12_about 158 = .ok (.aload_n 0, 1) := by decide +kernel
theorem dX12_about_159 : decode cX12_about 159 = .ok (.getfield 33, 3) := by decide +kernel
theorem dX12_about_162 : decode cX12_about 162 = .ok (.aload_n 0, 1) := by decide +kernel
theorem dX12_about_163 : decode cX12_about 163 = .ok (.getfield 301, 3) := by decide +kernel
theorem dX12_about_166 : decode cX12_about 166 = .ok (.iaload, 1) := by decide +kernel
theorem dX12_about_167 : decode cX12_about 167 = .ok (.ireturn, 1) := by decide +kernel
theorem dX12_about_168 : decode cX12_about 168 = .ok (.aload_n 0, 1) := by decide +kernel
theorem dX12_about_169 : decode cX12_about 169 = .ok (.getfield 414, 3) := by decide +kernel
theorem dX12_about_172 : decode cX12_about 172 = .ok (.ireturn, 1) := by decide +kernel
theorem dX12_about_173 : decode cX12_about 173 = .ok (.iconst (-1), 1) := by decide +kernel
theorem dX12_about_174 : decode cX12_about 174 = .ok (.ireturn, 1) := by decide +kernel
abbrev mi_X12_about : MI := (zTM, RX12, yX12_about, cX12_about, 2, (some .int), 3)
theorem cal_X12_about : zCalV mi_X12_about 1 := ⟨⟨zTB_i9 128 (by decide +kernel), zTB_i9 126 (by decide +kernel), zTB_i9 127 (by decide +kernel), zTB_i1 13 (by decide +kernel)⟩, ⟨by decide, by decide, by decide +kernel⟩, by decide⟩
noncomputable def X12_about (x1 : Int32) (M : Mem) : Option (Int32) :=
  if x1 = 0 then
    bo_ (X12_many M) fun v2 =>
    some v2
  else
  if x1 = 1 then
    gd_ (inb (M.1 0 41) (2) = true) (
    some (M.1 3 ((M.1 0 41).toNatClampNeg)))
  else
  if x1 = 2 then
    gd_ (inb (M.1 0 41) (2) = true) (
    some (M.1 5 ((M.1 0 41).toNatClampNeg)))
  else
  if x1 = 3 then
    gd_ (inb (M.1 0 41) (2) = true) (
    some (M.1 6 ((M.1 0 41).toNatClampNeg)))
  else
  if x1 = 4 then
    some (M.1 33 40)
  else
  if x1 = 5 then
    some (M.1 33 41)
  else
  if x1 = 6 then
    gd_ (inb (M.1 0 41) (2) = true) (
    some (M.1 8 ((M.1 0 41).toNatClampNeg)))
  else
  if x1 = 7 then
    some (M.1 0 50)
  else
  if x1 = 8 then
    some (M.1 0 51)
  else
  if x1 = 9 then
    some (M.1 0 78)
  else
  if x1 = 10 then
    some (M.1 0 79)
  else
  if x1 = 11 then
    some (M.1 0 2)
  else
  if x1 = 12 then
    gd_ (inb (M.1 0 41) (2) = true) (
    some (M.1 7 ((M.1 0 41).toNatClampNeg)))
  else
  if x1 = 13 then
    some (M.1 0 55)
  else
  some (-1)
set_option maxRecDepth 100000 in
set_option maxHeartbeats 4000000 in
theorem X12_about_ok (G : Gh) (x1 : Int32) (M : Mem) : Mt G mi_X12_about [.ref (G.2.2.2 (0)), .int x1] M ((dO (dI M)) (X12_about x1 M)) := by
  refine Mt_of (lv := [some (.ref (G.2.2.2 (0))), some (.int x1)]) (by decide) rfl (Nat.le_of_ble_eq_true rfl) rfl ?_
  unfold X12_about
  refine r_iload_n dX12_about_0 rfl ?_
  refine r_ite (fun h1 => ?_) (fun h1 => ?_)
  · refine r_tswIn (c := 0) (tgt := 72) dX12_about_1 h1 (by decide) (by decide) rfl rfl ?_
    refine r_aload_n dX12_about_72 rfl ?_
    refine c_OI rfl (inv_V (mi := mi_X12_about) (b := 0) (rest := []) (X12_many_ok G M) rfl (by decide) dX12_about_73 lkm_X12_398 cal_X12_many cM_0 rfl rfl (Nat.le_of_ble_eq_true rfl) rfl) (fun v2 => ?_)
    exact r_iret (ty := .int) dX12_about_76 rfl rfl rfl
  refine r_ite (fun h3 => ?_) (fun h3 => ?_)
  · refine r_tswIn (c := 1) (tgt := 77) dX12_about_1 h3 (by decide) (by decide) rfl rfl ?_
    refine r_aload_n dX12_about_77 rfl ?_
    refine r_getf (v := .ref (G.2.2.2 (3))) dX12_about_78 fM_0_11 kX12 (by decide) lkf_X12_20 rfl ?_
    refine r_aload_n dX12_about_81 rfl ?_
    refine r_getf (v := .int (M.1 0 41)) dX12_about_82 fM_0_41 kX12 (by decide) lkf_X12_301 rfl ?_
    refine r_gd rfl (fun g4 => ?_)
    refine r_iald dX12_about_85 aM_3 (inb_in g4) rfl ?_
    exact r_iret (ty := .int) dX12_about_86 rfl rfl rfl
  refine r_ite (fun h5 => ?_) (fun h5 => ?_)
  · refine r_tswIn (c := 2) (tgt := 87) dX12_about_1 h5 (by decide) (by decide) rfl rfl ?_
    refine r_aload_n dX12_about_87 rfl ?_
    refine r_getf (v := .ref (G.2.2.2 (5))) dX12_about_88 fM_0_13 kX12 (by decide) lkf_X12_27 rfl ?_
    refine r_aload_n dX12_about_91 rfl ?_
    refine r_getf (v := .int (M.1 0 41)) dX12_about_92 fM_0_41 kX12 (by decide) lkf_X12_301 rfl ?_
    refine r_gd rfl (fun g6 => ?_)
    refine r_iald dX12_about_95 aM_5 (inb_in g6) rfl ?_
    exact r_iret (ty := .int) dX12_about_96 rfl rfl rfl
  refine r_ite (fun h7 => ?_) (fun h7 => ?_)
  · refine r_tswIn (c := 3) (tgt := 97) dX12_about_1 h7 (by decide) (by decide) rfl rfl ?_
    refine r_aload_n dX12_about_97 rfl ?_
    refine r_getf (v := .ref (G.2.2.2 (6))) dX12_about_98 fM_0_14 kX12 (by decide) lkf_X12_30 rfl ?_
    refine r_aload_n dX12_about_101 rfl ?_
    refine r_getf (v := .int (M.1 0 41)) dX12_about_102 fM_0_41 kX12 (by decide) lkf_X12_301 rfl ?_
    refine r_gd rfl (fun g8 => ?_)
    refine r_iald dX12_about_105 aM_6 (inb_in g8) rfl ?_
    exact r_iret (ty := .int) dX12_about_106 rfl rfl rfl
  refine r_ite (fun h9 => ?_) (fun h9 => ?_)
  · refine r_tswIn (c := 4) (tgt := 107) dX12_about_1 h9 (by decide) (by decide) rfl rfl ?_
    refine r_aload_n dX12_about_107 rfl ?_
    refine r_getf (v := .ref (G.2.2.2 (33))) dX12_about_108 fM_0_48 kX12 (by decide) lkf_X12_113 rfl ?_
    refine r_bipush (x := 40) dX12_about_111 rfl ?_
    refine r_iald dX12_about_113 aM_33 (inb_in (i := 40) (n := 42) rfl) (m := 40) rfl ?_
    exact r_iret (ty := .int) dX12_about_114 rfl rfl rfl
  refine r_ite (fun h10 => ?_) (fun h10 => ?_)
  · refine r_tswIn (c := 5) (tgt := 115) dX12_about_1 h10 (by decide) (by decide) rfl rfl ?_
    refine r_aload_n dX12_about_115 rfl ?_
    refine r_getf (v := .ref (G.2.2.2 (33))) dX12_about_116 fM_0_48 kX12 (by decide) lkf_X12_113 rfl ?_
    refine r_bipush (x := 41) dX12_about_119 rfl ?_
    refine r_iald dX12_about_121 aM_33 (inb_in (i := 41) (n := 42) rfl) (m := 41) rfl ?_
    exact r_iret (ty := .int) dX12_about_122 rfl rfl rfl
  refine r_ite (fun h11 => ?_) (fun h11 => ?_)
  · refine r_tswIn (c := 6) (tgt := 123) dX12_about_1 h11 (by decide) (by decide) rfl rfl ?_
    refine r_aload_n dX12_about_123 rfl ?_
    refine r_getf (v := .ref (G.2.2.2 (8))) dX12_about_124 fM_0_16 kX12 (by decide) lkf_X12_36 rfl ?_
    refine r_aload_n dX12_about_127 rfl ?_
    refine r_getf (v := .int (M.1 0 41)) dX12_about_128 fM_0_41 kX12 (by decide) lkf_X12_301 rfl ?_
    refine r_gd rfl (fun g12 => ?_)
    refine r_iald dX12_about_131 aM_8 (inb_in g12) rfl ?_
    exact r_iret (ty := .int) dX12_about_132 rfl rfl rfl
  refine r_ite (fun h13 => ?_) (fun h13 => ?_)
  · refine r_tswIn (c := 7) (tgt := 133) dX12_about_1 h13 (by decide) (by decide) rfl rfl ?_
    refine r_aload_n dX12_about_133 rfl ?_
    refine r_getf (v := .int (M.1 0 50)) dX12_about_134 fM_0_50 kX12 (by decide) lkf_X12_405 rfl ?_
    exact r_iret (ty := .int) dX12_about_137 rfl rfl rfl
  refine r_ite (fun h14 => ?_) (fun h14 => ?_)
  · refine r_tswIn (c := 8) (tgt := 138) dX12_about_1 h14 (by decide) (by decide) rfl rfl ?_
    refine r_aload_n dX12_about_138 rfl ?_
    refine r_getf (v := .int (M.1 0 51)) dX12_about_139 fM_0_51 kX12 (by decide) lkf_X12_408 rfl ?_
    exact r_iret (ty := .int) dX12_about_142 rfl rfl rfl
  refine r_ite (fun h15 => ?_) (fun h15 => ?_)
  · refine r_tswIn (c := 9) (tgt := 143) dX12_about_1 h15 (by decide) (by decide) rfl rfl ?_
    refine r_aload_n dX12_about_143 rfl ?_
    refine r_getf (v := .int (M.1 0 78)) dX12_about_144 fM_0_78 kX12 (by decide) lkf_X12_411 rfl ?_
    exact r_iret (ty := .int) dX12_about_147 rfl rfl rfl
  refine r_ite (fun h16 => ?_) (fun h16 => ?_)
  · refine r_tswIn (c := 10) (tgt := 148) dX12_about_1 h16 (by decide) (by decide) rfl rfl ?_
    refine r_aload_n dX12_about_148 rfl ?_
    refine r_getf (v := .int (M.1 0 79)) dX12_about_149 fM_0_79 kX12 (by decide) lkf_X12_555 rfl ?_
    exact r_iret (ty := .int) dX12_about_152 rfl rfl rfl
  refine r_ite (fun h17 => ?_) (fun h17 => ?_)
  · refine r_tswIn (c := 11) (tgt := 153) dX12_about_1 h17 (by decide) (by decide) rfl rfl ?_
    refine r_aload_n dX12_about_153 rfl ?_
    refine r_getf (v := .int (M.1 0 2)) dX12_about_154 fM_0_2 kX12 (by decide) lkf_X12_298 rfl ?_
    exact r_iret (ty := .int) dX12_about_157 rfl rfl rfl
  refine r_ite (fun h18 => ?_) (fun h18 => ?_)
  · refine r_tswIn (c := 12) (tgt := 158) dX12_about_1 h18 (by decide) (by decide) rfl rfl ?_
    refine r_aload_n dX12_about_158 rfl ?_
    refine r_getf (v := .ref (G.2.2.2 (7))) dX12_about_159 fM_0_15 kX12 (by decide) lkf_X12_33 rfl ?_
    refine r_aload_n dX12_about_162 rfl ?_
    refine r_getf (v := .int (M.1 0 41)) dX12_about_163 fM_0_41 kX12 (by decide) lkf_X12_301 rfl ?_
    refine r_gd rfl (fun g19 => ?_)
    refine r_iald dX12_about_166 aM_7 (inb_in g19) rfl ?_
    exact r_iret (ty := .int) dX12_about_167 rfl rfl rfl
  refine r_ite (fun h20 => ?_) (fun h20 => ?_)
  · refine r_tswIn (c := 13) (tgt := 168) dX12_about_1 h20 (by decide) (by decide) rfl rfl ?_
    refine r_aload_n dX12_about_168 rfl ?_
    refine r_getf (v := .int (M.1 0 55)) dX12_about_169 fM_0_55 kX12 (by decide) lkf_X12_414 rfl ?_
    exact r_iret (ty := .int) dX12_about_172 rfl rfl rfl
  refine r_tswD (cs := [0, 1, 2, 3, 4, 5, 6, 7, 8, 9, 10, 11, 12, 13]) (tgt := 173) dX12_about_1 (by decide) (fun c hc => by simp only [List.mem_cons, List.not_mem_nil, or_false] at hc; rcases hc with rfl | rfl | rfl | rfl | rfl | rfl | rfl | rfl | rfl | rfl | rfl | rfl | rfl | rfl <;> assumption) rfl ?_
  refine r_iconst (x := (-1)) dX12_about_173 rfl ?_
  exact r_iret (ty := .int) dX12_about_174 rfl rfl rfl

