theorem dX3_become_0 : decode cX3_become 0 = .ok (.aload_n 0, 1) := by decide +kernel
theorem dX3_become_1 : decode cX3_become 1 = .ok (.aload_n 1, 1) := by decide +kernel
theorem dX3_become_2 : decode cX3_become 2 = .ok (.getfield 47, 3) := by decide +kernel
theorem dX3_become_5 : decode cX3_become 5 = .ok (.putfield 47, 3) := by decide +kernel
theorem dX3_become_8 : decode cX3_become 8 = .ok (.aload_n 0, 1) := by decide +kernel
theorem dX3_become_9 : decode cX3_become 9 = .ok (.aload_n 1, 1) := by decide +kernel
theorem dX3_become_10 : decode cX3_become 10 = .ok (.getfield 50, 3) := by decide +kernel
theorem dX3_become_13 : decode cX3_become 13 = .ok (.putfield 50, 3) := by decide +kernel
theorem dX3_become_16 : decode cX3_become 16 = .ok (.aload_n 0, 1) := by decide +kernel
theorem dX3_become_17 : decode cX3_become 17 = .ok (.aload_n 1, 1) := by decide +kernel
theorem dX3_become_18 : decode cX3_become 18 = .ok (.getfield 53, 3) := by decide +kernel
theorem dX3_become_21 : decode cX3_become 21 = .ok (.putfield 53, 3) := by decide +kernel
theorem dX3_become_24 : decode cX3_become 24 = .ok (.aload_n 0, 1) := by decide +kernel
theorem dX3_become_25 : decode cX3_become 25 = .ok (.aload_n 1, 1) := by decide +kernel
theorem dX3_become_26 : decode cX3_become 26 = .ok (.getfield 56, 3) := by decide +kernel
theorem dX3_become_29 : decode cX3_become 29 = .ok (.putfield 56, 3) := by decide +kernel
theorem dX3_become_32 : decode cX3_become 32 = .ok (.aload_n 0, 1) := by decide +kernel
theorem dX3_become_33 : decode cX3_become 33 = .ok (.aload_n 1, 1) := by decide +kernel
theorem dX3_become_34 : decode cX3_become 34 = .ok (.getfield 43, 3) := by decide +kernel
theorem dX3_become_37 : decode cX3_become 37 = .ok (.putfield 43, 3) := by decide +kernel
theorem dX3_become_40 : decode cX3_become 40 = .ok (.aload_n 0, 1) := by decide +kernel
theorem dX3_become_41 : decode cX3_become 41 = .ok (.aload_n 1, 1) := by decide +kernel
theorem dX3_become_42 : decode cX3_become 42 = .ok (.getfield 59, 3) := by decide +kernel
theorem dX3_become_45 : decode cX3_become 45 = .ok (.putfield 59, 3) := by decide +kernel
theorem dX3_become_48 : decode cX3_become 48 = .ok (.aload_n 1, 1) := by decide +kernel
theorem dX3_become_49 : decode cX3_become 49 = .ok (.getfield 9, 3) := by decide +kernel
theorem dX3_become_52 : decode cX3_become 52 = .ok (.aload_n 0, 1) := by decide +kernel
theorem dX3_become_53 : decode cX3_become 53 = .ok (.getfield 9, 3) := by decide +kernel
theorem dX3_become_56 : decode cX3_become 56 = .ok (.invokestatic 69, 3) := by decide +kernel
theorem dX3_become_59 : decode cX3_become 59 = .ok (.aload_n 1, 1) := by decide +kernel
theorem dX3_become_60 : decode cX3_become 60 = .ok (.getfield 15, 3) := by decide +kernel
theorem dX3_become_63 : decode cX3_become 63 = .ok (.aload_n 0, 1) := by decide +kernel
theorem dX3_become_64 : decode cX3_become 64 = .ok (.getfield 15, 3) := by decide +kernel
theorem dX3_become_67 : decode cX3_become 67 = .ok (.invokestatic 69, 3) := by decide +kernel
theorem dX3_become_70 : decode cX3_become 70 = .ok (.aload_n 1, 1) := by decide +kernel
theorem dX3_become_71 : decode cX3_become 71 = .ok (.getfield 18, 3) := by decide +kernel
theorem dX3_become_74 : decode cX3_become 74 = .ok (.aload_n 0, 1) := by decide +kernel
theorem dX3_become_75 : decode cX3_become 75 = .ok (.getfield 18, 3) := by decide +kernel
theorem dX3_become_78 : decode cX3_become 78 = .ok (.invokestatic 69, 3) := by decide +kernel
theorem dX3_become_81 : decode cX3_become 81 = .ok (.aload_n 1, 1) := by decide +kernel
theorem dX3_become_82 : decode cX3_become 82 = .ok (.getfield 21, 3) := by decide +kernel
theorem dX3_become_85 : decode cX3_become 85 = .ok (.aload_n 0, 1) := by decide +kernel
theorem dX3_become_86 : decode cX3_become 86 = .ok (.getfield 21, 3) := by decide +kernel
theorem dX3_become_89 : decode cX3_become 89 = .ok (.invokestatic 69, 3) := by decide +kernel
theorem dX3_become_92 : decode cX3_become 92 = .ok (.aload_n 1, 1) := by decide +kernel
theorem dX3_become_93 : decode cX3_become 93 = .ok (.getfield 24, 3) := by decide +kernel
theorem dX3_become_96 : decode cX3_become 96 = .ok (.aload_n 0, 1) := by decide +kernel
theorem dX3_become_97 : decode cX3_become 97 = .ok (.getfield 24, 3) := by decide +kernel
theorem dX3_become_100 : decode cX3_become 100 = .ok (.invokestatic 69, 3) := by decide +kernel
theorem dX3_become_103 : decode cX3_become 103 = .ok (.aload_n 1, 1) := by decide +kernel
theorem dX3_become_104 : decode cX3_become 104 = .ok (.getfield 27, 3) := by decide +kernel
theorem dX3_become_107 : decode cX3_become 107 = .ok (.aload_n 0, 1) := by decide +kernel
theorem dX3_become_108 : decode cX3_become 108 = .ok (.getfield 27, 3) := by decide +kernel
theorem dX3_become_111 : decode cX3_become 111 = .ok (.invokestatic 69, 3) := by decide +kernel
theorem dX3_become_114 : decode cX3_become 114 = .ok (.aload_n 1, 1) := by decide +kernel
theorem dX3_become_115 : decode cX3_become 115 = .ok (.getfield 30, 3) := by decide +kernel
theorem dX3_become_118 : decode cX3_become 118 = .ok (.aload_n 0, 1) := by decide +kernel
theorem dX3_become_119 : decode cX3_become 119 = .ok (.getfield 30, 3) := by decide +kernel
theorem dX3_become_122 : decode cX3_become 122 = .ok (.invokestatic 69, 3) := by decide +kernel
theorem dX3_become_125 : decode cX3_become 125 = .ok (.aload_n 1, 1) := by decide +kernel
theorem dX3_become_126 : decode cX3_become 126 = .ok (.getfield 33, 3) := by decide +kernel
theorem dX3_become_129 : decode cX3_become 129 = .ok (.aload_n 0, 1) := by decide +kernel
theorem dX3_become_130 : decode cX3_become 130 = .ok (.getfield 33, 3) := by decide +kernel
theorem dX3_become_133 : decode cX3_become 133 = .ok (.invokestatic 69, 3) := by decide +kernel
theorem dX3_become_136 : decode cX3_become 136 = .ok (.aload_n 0, 1) := by decide +kernel
theorem dX3_become_137 : decode cX3_become 137 = .ok (.getfield 39, 3) := by decide +kernel
theorem dX3_become_140 : decode cX3_become 140 = .ok (.aload_n 1, 1) := by decide +kernel
theorem dX3_become_141 : decode cX3_become 141 = .ok (.getfield 39, 3) := by decide +kernel
theorem dX3_become_144 : decode cX3_become 144 = .ok (.invokevirtual 73, 3) := by decide +kernel
theorem dX3_become_147 : decode cX3_become 147 = .ok (.return_, 1) := by decide +kernel
abbrev mi_X3_become : MI := (zTX, RX3, yX3_become, cX3_become, 2, none, 10)
theorem cal_X3_become : zCalV mi_X3_become 1 := ⟨⟨zTB_i4 5 (by decide +kernel), zTB_i4 3 (by decide +kernel), zTB_i4 4 (by decide +kernel), zTB_i1 4 (by decide +kernel)⟩, ⟨by decide, by decide, by decide +kernel⟩, by decide⟩
noncomputable def X3_become (o0 : Nat) (o1 : Nat) (M : Mem) : Option (Mem) :=
  lt_ (uI M o0 0 (M.1 o1 0)) fun M1 =>
  lt_ (uI M1 o0 1 (M1.1 o1 1)) fun M2 =>
  lt_ (uI M2 o0 2 (M2.1 o1 2)) fun M3 =>
  lt_ (uI M3 o0 3 (M3.1 o1 3)) fun M4 =>
  lt_ (uI M4 o0 4 (M4.1 o1 4)) fun M5 =>
  lt_ (uI M5 o0 5 (M5.1 o1 5)) fun M6 =>
  bo_ (X11_copyInts (o1 + 1) (o0 + 1) M6) fun M7 =>
  bo_ (X11_copyInts (o1 + 2) (o0 + 2) M7) fun M8 =>
  bo_ (X11_copyInts (o1 + 3) (o0 + 3) M8) fun M9 =>
  bo_ (X11_copyInts (o1 + 4) (o0 + 4) M9) fun M10 =>
  bo_ (X11_copyInts (o1 + 5) (o0 + 5) M10) fun M11 =>
  bo_ (X11_copyInts (o1 + 6) (o0 + 6) M11) fun M12 =>
  bo_ (X11_copyInts (o1 + 7) (o0 + 7) M12) fun M13 =>
  bo_ (X11_copyInts (o1 + 8) (o0 + 8) M13) fun M14 =>
  bo_ (X1_become (o0 + 9) (o1 + 9) M14) fun M15 =>
  some M15
set_option maxRecDepth 100000 in
set_option maxHeartbeats 4000000 in
theorem X3_become_ok_23_4 (G : Gh) (M : Mem) : Mt G mi_X3_become [.ref (G.2.2.2 (23)), .ref (G.2.2.2 (4))] M ((dO dV) (X3_become 23 4 M)) := by
  refine Mt_of (lv := [some (.ref (G.2.2.2 (23))), some (.ref (G.2.2.2 (4)))]) (by decide) rfl (Nat.le_of_ble_eq_true rfl) rfl ?_
  unfold X3_become
  refine r_aload_n dX3_become_0 rfl ?_
  refine r_aload_n dX3_become_1 rfl ?_
  refine r_getf (v := .int (M.1 4 0)) dX3_become_2 fX_4_0 kX3 (by decide) lkf_X3_47 rfl ?_
  refine r_putI dX3_become_5 fX_23_0 kX3 (by decide) rfl rfl lkf_X3_47 (fun _ => rfl) rfl rfl (fun M1 => ?_)
  refine r_aload_n dX3_become_8 rfl ?_
  refine r_aload_n dX3_become_9 rfl ?_
  refine r_getf (v := .int (M1.1 4 1)) dX3_become_10 fX_4_1 kX3 (by decide) lkf_X3_50 rfl ?_
  refine r_putI dX3_become_13 fX_23_1 kX3 (by decide) rfl rfl lkf_X3_50 (fun _ => rfl) rfl rfl (fun M2 => ?_)
  refine r_aload_n dX3_become_16 rfl ?_
  refine r_aload_n dX3_become_17 rfl ?_
  refine r_getf (v := .int (M2.1 4 2)) dX3_become_18 fX_4_2 kX3 (by decide) lkf_X3_53 rfl ?_
  refine r_putI dX3_become_21 fX_23_2 kX3 (by decide) rfl rfl lkf_X3_53 (fun _ => rfl) rfl rfl (fun M3 => ?_)
  refine r_aload_n dX3_become_24 rfl ?_
  refine r_aload_n dX3_become_25 rfl ?_
  refine r_getf (v := .int (M3.1 4 3)) dX3_become_26 fX_4_3 kX3 (by decide) lkf_X3_56 rfl ?_
  refine r_putI dX3_become_29 fX_23_3 kX3 (by decide) rfl rfl lkf_X3_56 (fun _ => rfl) rfl rfl (fun M4 => ?_)
  refine r_aload_n dX3_become_32 rfl ?_
  refine r_aload_n dX3_become_33 rfl ?_
  refine r_getf (v := .int (M4.1 4 4)) dX3_become_34 fX_4_4 kX3 (by decide) lkf_X3_43 rfl ?_
  refine r_putI dX3_become_37 fX_23_4 kX3 (by decide) rfl rfl lkf_X3_43 (fun _ => rfl) rfl rfl (fun M5 => ?_)
  refine r_aload_n dX3_become_40 rfl ?_
  refine r_aload_n dX3_become_41 rfl ?_
  refine r_getf (v := .int (M5.1 4 5)) dX3_become_42 fX_4_5 kX3 (by decide) lkf_X3_59 rfl ?_
  refine r_putI dX3_become_45 fX_23_5 kX3 (by decide) rfl rfl lkf_X3_59 (fun _ => rfl) rfl rfl (fun M6 => ?_)
  refine r_aload_n dX3_become_48 rfl ?_
  refine r_getf (v := .ref (G.2.2.2 (4 + 1))) dX3_become_49 fX_4_6 kX3 (by decide) lkf_X3_9 rfl ?_
  refine r_aload_n dX3_become_52 rfl ?_
  refine r_getf (v := .ref (G.2.2.2 (23 + 1))) dX3_become_53 fX_23_6 kX3 (by decide) lkf_X3_9 rfl ?_
  refine c_OV rfl (inv_SN (mi := mi_X3_become) (rest := []) (X11_copyInts_ok G aX_5p aX_24p M6) rfl (by decide) dX3_become_56 lkm_X3_69 cal_X11_copyInts rfl (Nat.le_of_ble_eq_true rfl) rfl) (fun M7 => ?_)
  refine r_aload_n dX3_become_59 rfl ?_
  refine r_getf (v := .ref (G.2.2.2 (4 + 2))) dX3_become_60 fX_4_7 kX3 (by decide) lkf_X3_15 rfl ?_
  refine r_aload_n dX3_become_63 rfl ?_
  refine r_getf (v := .ref (G.2.2.2 (23 + 2))) dX3_become_64 fX_23_7 kX3 (by decide) lkf_X3_15 rfl ?_
  refine c_OV rfl (inv_SN (mi := mi_X3_become) (rest := []) (X11_copyInts_ok G aX_6p aX_25p M7) rfl (by decide) dX3_become_67 lkm_X3_69 cal_X11_copyInts rfl (Nat.le_of_ble_eq_true rfl) rfl) (fun M8 => ?_)
  refine r_aload_n dX3_become_70 rfl ?_
  refine r_getf (v := .ref (G.2.2.2 (4 + 3))) dX3_become_71 fX_4_8 kX3 (by decide) lkf_X3_18 rfl ?_
  refine r_aload_n dX3_become_74 rfl ?_
  refine r_getf (v := .ref (G.2.2.2 (23 + 3))) dX3_become_75 fX_23_8 kX3 (by decide) lkf_X3_18 rfl ?_
  refine c_OV rfl (inv_SN (mi := mi_X3_become) (rest := []) (X11_copyInts_ok G aX_7p aX_26p M8) rfl (by decide) dX3_become_78 lkm_X3_69 cal_X11_copyInts rfl (Nat.le_of_ble_eq_true rfl) rfl) (fun M9 => ?_)
  refine r_aload_n dX3_become_81 rfl ?_
  refine r_getf (v := .ref (G.2.2.2 (4 + 4))) dX3_become_82 fX_4_9 kX3 (by decide) lkf_X3_21 rfl ?_
  refine r_aload_n dX3_become_85 rfl ?_
  refine r_getf (v := .ref (G.2.2.2 (23 + 4))) dX3_become_86 fX_23_9 kX3 (by decide) lkf_X3_21 rfl ?_
  refine c_OV rfl (inv_SN (mi := mi_X3_become) (rest := []) (X11_copyInts_ok G aX_8p aX_27p M9) rfl (by decide) dX3_become_89 lkm_X3_69 cal_X11_copyInts rfl (Nat.le_of_ble_eq_true rfl) rfl) (fun M10 => ?_)
  refine r_aload_n dX3_become_92 rfl ?_
  refine r_getf (v := .ref (G.2.2.2 (4 + 5))) dX3_become_93 fX_4_10 kX3 (by decide) lkf_X3_24 rfl ?_
  refine r_aload_n dX3_become_96 rfl ?_
  refine r_getf (v := .ref (G.2.2.2 (23 + 5))) dX3_become_97 fX_23_10 kX3 (by decide) lkf_X3_24 rfl ?_
  refine c_OV rfl (inv_SN (mi := mi_X3_become) (rest := []) (X11_copyInts_ok G aX_9p aX_28p M10) rfl (by decide) dX3_become_100 lkm_X3_69 cal_X11_copyInts rfl (Nat.le_of_ble_eq_true rfl) rfl) (fun M11 => ?_)
  refine r_aload_n dX3_become_103 rfl ?_
  refine r_getf (v := .ref (G.2.2.2 (4 + 6))) dX3_become_104 fX_4_11 kX3 (by decide) lkf_X3_27 rfl ?_
  refine r_aload_n dX3_become_107 rfl ?_
  refine r_getf (v := .ref (G.2.2.2 (23 + 6))) dX3_become_108 fX_23_11 kX3 (by decide) lkf_X3_27 rfl ?_
  refine c_OV rfl (inv_SN (mi := mi_X3_become) (rest := []) (X11_copyInts_ok G aX_10p aX_29p M11) rfl (by decide) dX3_become_111 lkm_X3_69 cal_X11_copyInts rfl (Nat.le_of_ble_eq_true rfl) rfl) (fun M12 => ?_)
  refine r_aload_n dX3_become_114 rfl ?_
  refine r_getf (v := .ref (G.2.2.2 (4 + 7))) dX3_become_115 fX_4_12 kX3 (by decide) lkf_X3_30 rfl ?_
  refine r_aload_n dX3_become_118 rfl ?_
  refine r_getf (v := .ref (G.2.2.2 (23 + 7))) dX3_become_119 fX_23_12 kX3 (by decide) lkf_X3_30 rfl ?_
  refine c_OV rfl (inv_SN (mi := mi_X3_become) (rest := []) (X11_copyInts_ok G aX_11p aX_30p M12) rfl (by decide) dX3_become_122 lkm_X3_69 cal_X11_copyInts rfl (Nat.le_of_ble_eq_true rfl) rfl) (fun M13 => ?_)
  refine r_aload_n dX3_become_125 rfl ?_
  refine r_getf (v := .ref (G.2.2.2 (4 + 8))) dX3_become_126 fX_4_13 kX3 (by decide) lkf_X3_33 rfl ?_
  refine r_aload_n dX3_become_129 rfl ?_
  refine r_getf (v := .ref (G.2.2.2 (23 + 8))) dX3_become_130 fX_23_13 kX3 (by decide) lkf_X3_33 rfl ?_
  refine c_OV rfl (inv_SN (mi := mi_X3_become) (rest := []) (X11_copyInts_ok G aX_12p aX_31p M13) rfl (by decide) dX3_become_133 lkm_X3_69 cal_X11_copyInts rfl (Nat.le_of_ble_eq_true rfl) rfl) (fun M14 => ?_)
  refine r_aload_n dX3_become_136 rfl ?_
  refine r_getf (v := .ref (G.2.2.2 (23 + 9))) dX3_become_137 fX_23_14 kX3 (by decide) lkf_X3_39 rfl ?_
  refine r_aload_n dX3_become_140 rfl ?_
  refine r_getf (v := .ref (G.2.2.2 (4 + 9))) dX3_become_141 fX_4_14 kX3 (by decide) lkf_X3_39 rfl ?_
  refine c_OV rfl (inv_V (mi := mi_X3_become) (b := 23 + 9) (rest := []) (X1_become_ok_32_13 G M14) rfl (by decide) dX3_become_144 lkm_X3_73 cal_X1_become cX_32 rfl rfl (Nat.le_of_ble_eq_true rfl) rfl) (fun M15 => ?_)
  exact r_vret dX3_become_147 rfl rfl

theorem dX9_begin_0 : decode cX9_begin 0 = .ok (.iconst 0, 1) := by decide +kernel
theorem dX9_begin_1 : decode cX9_begin 1 = .ok (.istore_n 1, 1) := by decide +kernel
theorem dX9_begin_2 : decode cX9_begin 2 = .ok (.iload_n 1, 1) := by decide +kernel
theorem dX9_begin_3 : decode cX9_begin 3 = .ok (.bipush 42, 2) := by decide +kernel
theorem dX9_begin_5 : decode cX9_begin 5 = .ok (.if_icmp .ge 18, 3) := by decide +kernel
theorem dX9_begin_8 : decode cX9_begin 8 = .ok (.aload_n 0, 1) := by decide +kernel
theorem dX9_begin_9 : decode cX9_begin 9 = .ok (.getfield 11, 3) := by decide +kernel
theorem dX9_begin_12 : decode cX9_begin 12 = .ok (.iload_n 1, 1) := by decide +kernel
theorem dX9_begin_13 : decode cX9_begin 13 = .ok (.iconst 0, 1) := by decide +kernel
theorem dX9_begin_14 : decode cX9_begin 14 = .ok (.invokestatic 27, 3) := by decide +kernel
theorem dX9_begin_17 : decode cX9_begin 17 = .ok (.iinc 1 1, 3) := by decide +kernel
theorem dX9_begin_20 : decode cX9_begin 20 = .ok (.goto (-18), 3) := by decide +kernel
theorem dX9_begin_23 : decode cX9_begin 23 = .ok (.iconst 0, 1) := by decide +kernel
theorem dX9_begin_24 : decode cX9_begin 24 = .ok (.istore_n 1, 1) := by decide +kernel
theorem dX9_begin_25 : decode cX9_begin 25 = .ok (.iload_n 1, 1) := by decide +kernel
theorem dX9_begin_26 : decode cX9_begin 26 = .ok (.bipush 15, 2) := by decide +kernel
theorem dX9_begin_28 : decode cX9_begin 28 = .ok (.if_icmp .ge 28, 3) := by decide +kernel
theorem dX9_begin_31 : decode cX9_begin 31 = .ok (.aload_n 0, 1) := by decide +kernel
theorem dX9_begin_32 : decode cX9_begin 32 = .ok (.getfield 11, 3) := by decide +kernel
theorem dX9_begin_35 : decode cX9_begin 35 = .ok (.iload_n 1, 1) := by decide +kernel
theorem dX9_begin_36 : decode cX9_begin 36 = .ok (.aload_n 0, 1) := by decide +kernel
theorem dX9_begin_37 : decode cX9_begin 37 = .ok (.getfield 23, 3) := by decide +kernel
theorem dX9_begin_40 : decode cX9_begin 40 = .ok (.getfield 31, 3) := by decide +kernel
theorem dX9_begin_43 : decode cX9_begin 43 = .ok (.iload_n 1, 1) := by decide +kernel
theorem dX9_begin_44 : decode cX9_begin 44 = .ok (.invokestatic 36, 3) := by decide +kernel
theorem dX9_begin_47 : decode cX9_begin 47 = .ok (.invokestatic 27, 3) := by decide +kernel
theorem dX9_begin_50 : decode cX9_begin 50 = .ok (.iinc 1 1, 3) := by decide +kernel
theorem dX9_begin_53 : decode cX9_begin 53 = .ok (.goto (-28), 3) := by decide +kernel
theorem dX9_begin_56 : decode cX9_begin 56 = .ok (.iconst 0, 1) := by decide +kernel
theorem dX9_begin_57 : decode cX9_begin 57 = .ok (.istore_n 1, 1) := by decide +kernel
theorem dX9_begin_58 : decode cX9_begin 58 = .ok (.iload_n 1, 1) := by decide +kernel
theorem dX9_begin_59 : decode cX9_begin 59 = .ok (.aload_n 0, 1) := by decide +kernel
theorem dX9_begin_60 : decode cX9_begin 60 = .ok (.getfield 23, 3) := by decide +kernel
theorem dX9_begin_63 : decode cX9_begin 63 = .ok (.getfield 40, 3) := by decide +kernel
theorem dX9_begin_66 : decode cX9_begin 66 = .ok (.if_icmp .ge 31, 3) := by decide +kernel
theorem dX9_begin_69 : decode cX9_begin 69 = .ok (.aload_n 0, 1) := by decide +kernel
theorem dX9_begin_70 : decode cX9_begin 70 = .ok (.getfield 11, 3) := by decide +kernel
theorem dX9_begin_73 : decode cX9_begin 73 = .ok (.bipush 30, 2) := by decide +kernel
theorem dX9_begin_75 : decode cX9_begin 75 = .ok (.iload_n 1, 1) := by decide +kernel
theorem dX9_begin_76 : decode cX9_begin 76 = .ok (.iadd, 1) := by decide +kernel
theorem dX9_begin_77 : decode cX9_begin 77 = .ok (.aload_n 0, 1) := by decide +kernel
theorem dX9_begin_78 : decode cX9_begin 78 = .ok (.getfield 23, 3) := by decide +kernel
theorem dX9_begin_81 : decode cX9_begin 81 = .ok (.getfield 44, 3) := by decide +kernel
theorem dX9_begin_84 : decode cX9_begin 84 = .ok (.iload_n 1, 1) := by decide +kernel
theorem dX9_begin_85 : decode cX9_begin 85 = .ok (.invokestatic 36, 3) := by decide +kernel
theorem dX9_begin_88 : decode cX9_begin 88 = .ok (.invokestatic 27, 3) := by decide +kernel
theorem dX9_begin_91 : decode cX9_begin 91 = .ok (.iinc 1 1, 3) := by decide +kernel
theorem dX9_begin_94 : decode cX9_begin 94 = .ok (.goto (-36), 3) := by decide +kernel
theorem dX9_begin_97 : decode cX9_begin 97 = .ok (.aload_n 0, 1) := by decide +kernel
theorem dX9_begin_98 : decode cX9_begin 98 = .ok (.getfield 11, 3) := by decide +kernel
theorem dX9_begin_101 : decode cX9_begin 101 = .ok (.bipush 41, 2) := by decide +kernel
theorem dX9_begin_103 : decode cX9_begin 103 = .ok (.aload_n 0, 1) := by decide +kernel
theorem dX9_begin_104 : decode cX9_begin 104 = .ok (.getfield 23, 3) := by decide +kernel
theorem dX9_begin_107 : decode cX9_begin 107 = .ok (.getfield 47, 3) := by decide +kernel
theorem dX9_begin_110 : decode cX9_begin 110 = .ok (.invokestatic 27, 3) := by decide +kernel
theorem dX9_begin_113 : decode cX9_begin 113 = .ok (.return_, 1) := by decide +kernel
abbrev mi_X9_begin : MI := (zTX, RX9, yX9_begin, cX9_begin, 2, none, 3)
theorem cal_X9_begin : zCalV mi_X9_begin 0 := ⟨⟨zTB_i4 23 (by decide +kernel), zTB_i4 21 (by decide +kernel), zTB_i4 22 (by decide +kernel), zTB_i1 8 (by decide +kernel)⟩, ⟨by decide, by decide, by decide +kernel⟩, by decide⟩
noncomputable def X9_begin_L3 (o0 : Nat) : Nat → Int32 → Mem → Option (Mem)
  | 0, _, _ => none
  | n + 1, c1, M =>
    if (M.1 23 0) ≤ c1 then
      some M
    else
    lt_ (X11_put (o0 + 1) (30 + c1) (X11_cell 24 c1 M) M) fun M8 =>
    X9_begin_L3 o0 n (c1 + 1) M8
noncomputable def X9_begin_L2 (o0 : Nat) : Nat → Int32 → Mem → Option (Mem)
  | 0, _, _ => none
  | n + 1, c1, M =>
    if 15 ≤ c1 then
      some M
    else
    lt_ (X11_put (o0 + 1) c1 (X11_cell 27 c1 M) M) fun M5 =>
    X9_begin_L2 o0 n (c1 + 1) M5
noncomputable def X9_begin_L1 (o0 : Nat) : Nat → Int32 → Mem → Option (Mem)
  | 0, _, _ => none
  | n + 1, c1, M =>
    if 42 ≤ c1 then
      some M
    else
    lt_ (X11_put (o0 + 1) c1 0 M) fun M2 =>
    X9_begin_L1 o0 n (c1 + 1) M2
noncomputable def X9_begin (o0 : Nat) (M : Mem) : Option (Mem) :=
  b1_ (α := Mem) (X9_begin_L1 o0 zFU 0 M) fun M3 =>
  b1_ (α := Mem) (X9_begin_L2 o0 zFU 0 M3) fun M6 =>
  b1_ (α := Mem) (X9_begin_L3 o0 zFU 0 M6) fun M9 =>
  lt_ (X11_put (o0 + 1) 41 (M9.1 23 5) M9) fun M10 =>
  some M10
set_option maxRecDepth 100000 in
set_option maxHeartbeats 4000000 in
theorem X9_begin_L3_ok_35 (G : Gh) {dn : Option (Mem) → Option (Option Value × Mem)} (hs : dn none = none) (hx : ∀ (M9 : Mem), Wr G mi_X9_begin dn 97 [some (.ref (G.2.2.2 (35))), none] [] M9 (some M9)) : ∀ (n : Nat) (c1 : Int32) (M : Mem), Wr G mi_X9_begin dn 58 [some (.ref (G.2.2.2 (35))), some (.int c1)] [] M (X9_begin_L3 35 n c1 M) := by
  intro n
  induction n with
  | zero => intro c1 M; exact r_none (by exact hs)
  | succ n ih =>
    intro c1 M
    rw [X9_begin_L3]
    refine r_iload_n dX9_begin_58 rfl ?_
    refine r_aload_n dX9_begin_59 rfl ?_
    refine r_getf (v := .ref (G.2.2.2 (23))) dX9_begin_60 fX_35_0 kX9 (by decide) lkf_X9_23 rfl ?_
    refine r_getf (v := .int (M.1 23 0)) dX9_begin_63 fX_23_0 kX3 (by decide) lkf_X9_40 rfl ?_
    refine r_icmp_ge (tgt := 97) dX9_begin_66 rfl (fun h7 => ?_) (fun h7 => ?_)
    · exact r_lk (hx M) (And.intro rfl True.intro)
    refine r_aload_n dX9_begin_69 rfl ?_
    refine r_getf (v := .ref (G.2.2.2 (35 + 1))) dX9_begin_70 fX_35_1 kX9 (by decide) lkf_X9_11 rfl ?_
    refine r_bipush (x := 30) dX9_begin_73 rfl ?_
    refine r_iload_n dX9_begin_75 rfl ?_
    refine r_iadd dX9_begin_76 ?_
    refine r_aload_n dX9_begin_77 rfl ?_
    refine r_getf (v := .ref (G.2.2.2 (23))) dX9_begin_78 fX_35_0 kX9 (by decide) lkf_X9_23 rfl ?_
    refine r_getf (v := .ref (G.2.2.2 (24))) dX9_begin_81 fX_23_6 kX3 (by decide) lkf_X9_44 rfl ?_
    refine r_iload_n dX9_begin_84 rfl ?_
    refine c_I (inv_SN (mi := mi_X9_begin) (rest := [.int (30 + c1), .ref (G.2.2.2 (35 + 1))]) (X11_cell_ok G aX_24p c1 M) rfl (by decide) dX9_begin_85 lkm_X9_36 cal_X11_cell rfl (Nat.le_of_ble_eq_true rfl) rfl) ?_
    refine c_V (inv_SN (mi := mi_X9_begin) (rest := []) (X11_put_ok G aX_36p (30 + c1) (X11_cell 24 c1 M) M) rfl (by decide) dX9_begin_88 lkm_X9_27 cal_X11_put rfl (Nat.le_of_ble_eq_true rfl) rfl) (fun M8 => ?_)
    refine r_iinc (y := c1 + 1) (lv' := [some (.ref (G.2.2.2 (35))), some (.int (c1 + 1))]) dX9_begin_91 rfl rfl (Nat.le_of_ble_eq_true rfl) rfl rfl ?_
    refine r_goto (tgt := 58) dX9_begin_94 rfl ?_
    exact r_lk (ih (c1 + 1) M8) (And.intro rfl (And.intro rfl True.intro))
set_option maxRecDepth 100000 in
set_option maxHeartbeats 4000000 in
theorem X9_begin_L2_ok_35 (G : Gh) {dn : Option (Mem) → Option (Option Value × Mem)} (hs : dn none = none) (hx : ∀ (M6 : Mem), Wr G mi_X9_begin dn 56 [some (.ref (G.2.2.2 (35))), none] [] M6 (some M6)) : ∀ (n : Nat) (c1 : Int32) (M : Mem), Wr G mi_X9_begin dn 25 [some (.ref (G.2.2.2 (35))), some (.int c1)] [] M (X9_begin_L2 35 n c1 M) := by
  intro n
  induction n with
  | zero => intro c1 M; exact r_none (by exact hs)
  | succ n ih =>
    intro c1 M
    rw [X9_begin_L2]
    refine r_iload_n dX9_begin_25 rfl ?_
    refine r_bipush (x := 15) dX9_begin_26 rfl ?_
    refine r_icmp_ge (tgt := 56) dX9_begin_28 rfl (fun h4 => ?_) (fun h4 => ?_)
    · exact r_lk (hx M) (And.intro rfl True.intro)
    refine r_aload_n dX9_begin_31 rfl ?_
    refine r_getf (v := .ref (G.2.2.2 (35 + 1))) dX9_begin_32 fX_35_1 kX9 (by decide) lkf_X9_11 rfl ?_
    refine r_iload_n dX9_begin_35 rfl ?_
    refine r_aload_n dX9_begin_36 rfl ?_
    refine r_getf (v := .ref (G.2.2.2 (23))) dX9_begin_37 fX_35_0 kX9 (by decide) lkf_X9_23 rfl ?_
    refine r_getf (v := .ref (G.2.2.2 (27))) dX9_begin_40 fX_23_9 kX3 (by decide) lkf_X9_31 rfl ?_
    refine r_iload_n dX9_begin_43 rfl ?_
    refine c_I (inv_SN (mi := mi_X9_begin) (rest := [.int c1, .ref (G.2.2.2 (35 + 1))]) (X11_cell_ok G aX_27p c1 M) rfl (by decide) dX9_begin_44 lkm_X9_36 cal_X11_cell rfl (Nat.le_of_ble_eq_true rfl) rfl) ?_
    refine c_V (inv_SN (mi := mi_X9_begin) (rest := []) (X11_put_ok G aX_36p c1 (X11_cell 27 c1 M) M) rfl (by decide) dX9_begin_47 lkm_X9_27 cal_X11_put rfl (Nat.le_of_ble_eq_true rfl) rfl) (fun M5 => ?_)
    refine r_iinc (y := c1 + 1) (lv' := [some (.ref (G.2.2.2 (35))), some (.int (c1 + 1))]) dX9_begin_50 rfl rfl (Nat.le_of_ble_eq_true rfl) rfl rfl ?_
    refine r_goto (tgt := 25) dX9_begin_53 rfl ?_
    exact r_lk (ih (c1 + 1) M5) (And.intro rfl (And.intro rfl True.intro))
set_option maxRecDepth 100000 in
set_option maxHeartbeats 4000000 in
theorem X9_begin_L1_ok_35 (G : Gh) {dn : Option (Mem) → Option (Option Value × Mem)} (hs : dn none = none) (hx : ∀ (M3 : Mem), Wr G mi_X9_begin dn 23 [some (.ref (G.2.2.2 (35))), none] [] M3 (some M3)) : ∀ (n : Nat) (c1 : Int32) (M : Mem), Wr G mi_X9_begin dn 2 [some (.ref (G.2.2.2 (35))), some (.int c1)] [] M (X9_begin_L1 35 n c1 M) := by
  intro n
  induction n with
  | zero => intro c1 M; exact r_none (by exact hs)
  | succ n ih =>
    intro c1 M
    rw [X9_begin_L1]
    refine r_iload_n dX9_begin_2 rfl ?_
    refine r_bipush (x := 42) dX9_begin_3 rfl ?_
    refine r_icmp_ge (tgt := 23) dX9_begin_5 rfl (fun h1 => ?_) (fun h1 => ?_)
    · exact r_lk (hx M) (And.intro rfl True.intro)
    refine r_aload_n dX9_begin_8 rfl ?_
    refine r_getf (v := .ref (G.2.2.2 (35 + 1))) dX9_begin_9 fX_35_1 kX9 (by decide) lkf_X9_11 rfl ?_
    refine r_iload_n dX9_begin_12 rfl ?_
    refine r_iconst (x := 0) dX9_begin_13 rfl ?_
    refine c_V (inv_SN (mi := mi_X9_begin) (rest := []) (X11_put_ok G aX_36p c1 0 M) rfl (by decide) dX9_begin_14 lkm_X9_27 cal_X11_put rfl (Nat.le_of_ble_eq_true rfl) rfl) (fun M2 => ?_)
    refine r_iinc (y := c1 + 1) (lv' := [some (.ref (G.2.2.2 (35))), some (.int (c1 + 1))]) dX9_begin_17 rfl rfl (Nat.le_of_ble_eq_true rfl) rfl rfl ?_
    refine r_goto (tgt := 2) dX9_begin_20 rfl ?_
    exact r_lk (ih (c1 + 1) M2) (And.intro rfl (And.intro rfl True.intro))
set_option maxRecDepth 100000 in
set_option maxHeartbeats 4000000 in
theorem X9_begin_ok_35 (G : Gh) (M : Mem) : Mt G mi_X9_begin [.ref (G.2.2.2 (35))] M ((dO dV) (X9_begin 35 M)) := by
  refine Mt_of (lv := [some (.ref (G.2.2.2 (35)))]) (by decide) rfl (Nat.le_of_ble_eq_true rfl) rfl ?_
  refine r_le (lv' := [some (.ref (G.2.2.2 (35))), none]) (And.intro rfl True.intro) ?_
  unfold X9_begin
  refine r_iconst (x := 0) dX9_begin_0 rfl ?_
  refine r_istore_n (lv' := [some (.ref (G.2.2.2 (35))), some (.int 0)]) dX9_begin_1 (Nat.le_of_ble_eq_true rfl) rfl rfl ?_
  refine r_jB1 (j := 23) (lvj := fun M3 => [some (.ref (G.2.2.2 (35))), none]) (stj := fun M3 => []) (Mj := fun M3 => M3) (fun M3 => ?_) (fun hj23 => ?_)
  · refine r_iconst (x := 0) dX9_begin_23 rfl ?_
    refine r_istore_n (lv' := [some (.ref (G.2.2.2 (35))), some (.int 0)]) dX9_begin_24 (Nat.le_of_ble_eq_true rfl) rfl rfl ?_
    refine r_jB1 (j := 56) (lvj := fun M6 => [some (.ref (G.2.2.2 (35))), none]) (stj := fun M6 => []) (Mj := fun M6 => M6) (fun M6 => ?_) (fun hj56 => ?_)
    · refine r_iconst (x := 0) dX9_begin_56 rfl ?_
      refine r_istore_n (lv' := [some (.ref (G.2.2.2 (35))), some (.int 0)]) dX9_begin_57 (Nat.le_of_ble_eq_true rfl) rfl rfl ?_
      refine r_jB1 (j := 97) (lvj := fun M9 => [some (.ref (G.2.2.2 (35))), none]) (stj := fun M9 => []) (Mj := fun M9 => M9) (fun M9 => ?_) (fun hj97 => ?_)
      · refine r_aload_n dX9_begin_97 rfl ?_
        refine r_getf (v := .ref (G.2.2.2 (35 + 1))) dX9_begin_98 fX_35_1 kX9 (by decide) lkf_X9_11 rfl ?_
        refine r_bipush (x := 41) dX9_begin_101 rfl ?_
        refine r_aload_n dX9_begin_103 rfl ?_
        refine r_getf (v := .ref (G.2.2.2 (23))) dX9_begin_104 fX_35_0 kX9 (by decide) lkf_X9_23 rfl ?_
        refine r_getf (v := .int (M9.1 23 5)) dX9_begin_107 fX_23_5 kX3 (by decide) lkf_X9_47 rfl ?_
        refine c_V (inv_SN (mi := mi_X9_begin) (rest := []) (X11_put_ok G aX_36p 41 (M9.1 23 5) M9) rfl (by decide) dX9_begin_110 lkm_X9_27 cal_X11_put rfl (Nat.le_of_ble_eq_true rfl) rfl) (fun M10 => ?_)
        exact r_vret dX9_begin_113 rfl rfl
      exact r_lk (X9_begin_L3_ok_35 G rfl hj97 zFU 0 M6) (And.intro rfl (And.intro rfl True.intro))
    exact r_lk (X9_begin_L2_ok_35 G rfl hj56 zFU 0 M3) (And.intro rfl (And.intro rfl True.intro))
  exact r_lk (X9_begin_L1_ok_35 G rfl hj23 zFU 0 M) (And.intro rfl (And.intro rfl True.intro))
set_option maxRecDepth 100000 in
set_option maxHeartbeats 4000000 in
theorem X9_begin_L3_ok_42 (G : Gh) {dn : Option (Mem) → Option (Option Value × Mem)} (hs : dn none = none) (hx : ∀ (M9 : Mem), Wr G mi_X9_begin dn 97 [some (.ref (G.2.2.2 (42))), none] [] M9 (some M9)) : ∀ (n : Nat) (c1 : Int32) (M : Mem), Wr G mi_X9_begin dn 58 [some (.ref (G.2.2.2 (42))), some (.int c1)] [] M (X9_begin_L3 42 n c1 M) := by
  intro n
  induction n with
  | zero => intro c1 M; exact r_none (by exact hs)
  | succ n ih =>
    intro c1 M
    rw [X9_begin_L3]
    refine r_iload_n dX9_begin_58 rfl ?_
    refine r_aload_n dX9_begin_59 rfl ?_
    refine r_getf (v := .ref (G.2.2.2 (23))) dX9_begin_60 fX_42_0 kX9 (by decide) lkf_X9_23 rfl ?_
    refine r_getf (v := .int (M.1 23 0)) dX9_begin_63 fX_23_0 kX3 (by decide) lkf_X9_40 rfl ?_
    refine r_icmp_ge (tgt := 97) dX9_begin_66 rfl (fun h7 => ?_) (fun h7 => ?_)
    · exact r_lk (hx M) (And.intro rfl True.intro)
    refine r_aload_n dX9_begin_69 rfl ?_
    refine r_getf (v := .ref (G.2.2.2 (42 + 1))) dX9_begin_70 fX_42_1 kX9 (by decide) lkf_X9_11 rfl ?_
    refine r_bipush (x := 30) dX9_begin_73 rfl ?_
    refine r_iload_n dX9_begin_75 rfl ?_
    refine r_iadd dX9_begin_76 ?_
    refine r_aload_n dX9_begin_77 rfl ?_
    refine r_getf (v := .ref (G.2.2.2 (23))) dX9_begin_78 fX_42_0 kX9 (by decide) lkf_X9_23 rfl ?_
    refine r_getf (v := .ref (G.2.2.2 (24))) dX9_begin_81 fX_23_6 kX3 (by decide) lkf_X9_44 rfl ?_
    refine r_iload_n dX9_begin_84 rfl ?_
    refine c_I (inv_SN (mi := mi_X9_begin) (rest := [.int (30 + c1), .ref (G.2.2.2 (42 + 1))]) (X11_cell_ok G aX_24p c1 M) rfl (by decide) dX9_begin_85 lkm_X9_36 cal_X11_cell rfl (Nat.le_of_ble_eq_true rfl) rfl) ?_
    refine c_V (inv_SN (mi := mi_X9_begin) (rest := []) (X11_put_ok G aX_43p (30 + c1) (X11_cell 24 c1 M) M) rfl (by decide) dX9_begin_88 lkm_X9_27 cal_X11_put rfl (Nat.le_of_ble_eq_true rfl) rfl) (fun M8 => ?_)
    refine r_iinc (y := c1 + 1) (lv' := [some (.ref (G.2.2.2 (42))), some (.int (c1 + 1))]) dX9_begin_91 rfl rfl (Nat.le_of_ble_eq_true rfl) rfl rfl ?_
    refine r_goto (tgt := 58) dX9_begin_94 rfl ?_
    exact r_lk (ih (c1 + 1) M8) (And.intro rfl (And.intro rfl True.intro))
set_option maxRecDepth 100000 in
set_option maxHeartbeats 4000000 in
theorem X9_begin_L2_ok_42 (G : Gh) {dn : Option (Mem) → Option (Option Value × Mem)} (hs : dn none = none) (hx : ∀ (M6 : Mem), Wr G mi_X9_begin dn 56 [some (.ref (G.2.2.2 (42))), none] [] M6 (some M6)) : ∀ (n : Nat) (c1 : Int32) (M : Mem), Wr G mi_X9_begin dn 25 [some (.ref (G.2.2.2 (42))), some (.int c1)] [] M (X9_begin_L2 42 n c1 M) := by
  intro n
  induction n with
  | zero => intro c1 M; exact r_none (by exact hs)
  | succ n ih =>
    intro c1 M
    rw [X9_begin_L2]
    refine r_iload_n dX9_begin_25 rfl ?_
    refine r_bipush (x := 15) dX9_begin_26 rfl ?_
    refine r_icmp_ge (tgt := 56) dX9_begin_28 rfl (fun h4 => ?_) (fun h4 => ?_)
    · exact r_lk (hx M) (And.intro rfl True.intro)
    refine r_aload_n dX9_begin_31 rfl ?_
    refine r_getf (v := .ref (G.2.2.2 (42 + 1))) dX9_begin_32 fX_42_1 kX9 (by decide) lkf_X9_11 rfl ?_
    refine r_iload_n dX9_begin_35 rfl ?_
    refine r_aload_n dX9_begin_36 rfl ?_
    refine r_getf (v := .ref (G.2.2.2 (23))) dX9_begin_37 fX_42_0 kX9 (by decide) lkf_X9_23 rfl ?_
    refine r_getf (v := .ref (G.2.2.2 (27))) dX9_begin_40 fX_23_9 kX3 (by decide) lkf_X9_31 rfl ?_
    refine r_iload_n dX9_begin_43 rfl ?_
    refine c_I (inv_SN (mi := mi_X9_begin) (rest := [.int c1, .ref (G.2.2.2 (42 + 1))]) (X11_cell_ok G aX_27p c1 M) rfl (by decide) dX9_begin_44 lkm_X9_36 cal_X11_cell rfl (Nat.le_of_ble_eq_true rfl) rfl) ?_
    refine c_V (inv_SN (mi := mi_X9_begin) (rest := []) (X11_put_ok G aX_43p c1 (X11_cell 27 c1 M) M) rfl (by decide) dX9_begin_47 lkm_X9_27 cal_X11_put rfl (Nat.le_of_ble_eq_true rfl) rfl) (fun M5 => ?_)
    refine r_iinc (y := c1 + 1) (lv' := [some (.ref (G.2.2.2 (42))), some (.int (c1 + 1))]) dX9_begin_50 rfl rfl (Nat.le_of_ble_eq_true rfl) rfl rfl ?_
    refine r_goto (tgt := 25) dX9_begin_53 rfl ?_
    exact r_lk (ih (c1 + 1) M5) (And.intro rfl (And.intro rfl True.intro))
set_option maxRecDepth 100000 in
set_option maxHeartbeats 4000000 in
theorem X9_begin_L1_ok_42 (G : Gh) {dn : Option (Mem) → Option (Option Value × Mem)} (hs : dn none = none) (hx : ∀ (M3 : Mem), Wr G mi_X9_begin dn 23 [some (.ref (G.2.2.2 (42))), none] [] M3 (some M3)) : ∀ (n : Nat) (c1 : Int32) (M : Mem), Wr G mi_X9_begin dn 2 [some (.ref (G.2.2.2 (42))), some (.int c1)] [] M (X9_begin_L1 42 n c1 M) := by
  intro n
  induction n with
  | zero => intro c1 M; exact r_none (by exact hs)
  | succ n ih =>
    intro c1 M
    rw [X9_begin_L1]
    refine r_iload_n dX9_begin_2 rfl ?_
    refine r_bipush (x := 42) dX9_begin_3 rfl ?_
    refine r_icmp_ge (tgt := 23) dX9_begin_5 rfl (fun h1 => ?_) (fun h1 => ?_)
    · exact r_lk (hx M) (And.intro rfl True.intro)
    refine r_aload_n dX9_begin_8 rfl ?_
    refine r_getf (v := .ref (G.2.2.2 (42 + 1))) dX9_begin_9 fX_42_1 kX9 (by decide) lkf_X9_11 rfl ?_
    refine r_iload_n dX9_begin_12 rfl ?_
    refine r_iconst (x := 0) dX9_begin_13 rfl ?_
    refine c_V (inv_SN (mi := mi_X9_begin) (rest := []) (X11_put_ok G aX_43p c1 0 M) rfl (by decide) dX9_begin_14 lkm_X9_27 cal_X11_put rfl (Nat.le_of_ble_eq_true rfl) rfl) (fun M2 => ?_)
    refine r_iinc (y := c1 + 1) (lv' := [some (.ref (G.2.2.2 (42))), some (.int (c1 + 1))]) dX9_begin_17 rfl rfl (Nat.le_of_ble_eq_true rfl) rfl rfl ?_
    refine r_goto (tgt := 2) dX9_begin_20 rfl ?_
    exact r_lk (ih (c1 + 1) M2) (And.intro rfl (And.intro rfl True.intro))
set_option maxRecDepth 100000 in
set_option maxHeartbeats 4000000 in
theorem X9_begin_ok_42 (G : Gh) (M : Mem) : Mt G mi_X9_begin [.ref (G.2.2.2 (42))] M ((dO dV) (X9_begin 42 M)) := by
  refine Mt_of (lv := [some (.ref (G.2.2.2 (42)))]) (by decide) rfl (Nat.le_of_ble_eq_true rfl) rfl ?_
  refine r_le (lv' := [some (.ref (G.2.2.2 (42))), none]) (And.intro rfl True.intro) ?_
  unfold X9_begin
  refine r_iconst (x := 0) dX9_begin_0 rfl ?_
  refine r_istore_n (lv' := [some (.ref (G.2.2.2 (42))), some (.int 0)]) dX9_begin_1 (Nat.le_of_ble_eq_true rfl) rfl rfl ?_
  refine r_jB1 (j := 23) (lvj := fun M3 => [some (.ref (G.2.2.2 (42))), none]) (stj := fun M3 => []) (Mj := fun M3 => M3) (fun M3 => ?_) (fun hj23 => ?_)
  · refine r_iconst (x := 0) dX9_begin_23 rfl ?_
    refine r_istore_n (lv' := [some (.ref (G.2.2.2 (42))), some (.int 0)]) dX9_begin_24 (Nat.le_of_ble_eq_true rfl) rfl rfl ?_
    refine r_jB1 (j := 56) (lvj := fun M6 => [some (.ref (G.2.2.2 (42))), none]) (stj := fun M6 => []) (Mj := fun M6 => M6) (fun M6 => ?_) (fun hj56 => ?_)
    · refine r_iconst (x := 0) dX9_begin_56 rfl ?_
      refine r_istore_n (lv' := [some (.ref (G.2.2.2 (42))), some (.int 0)]) dX9_begin_57 (Nat.le_of_ble_eq_true rfl) rfl rfl ?_
      refine r_jB1 (j := 97) (lvj := fun M9 => [some (.ref (G.2.2.2 (42))), none]) (stj := fun M9 => []) (Mj := fun M9 => M9) (fun M9 => ?_) (fun hj97 => ?_)
      · refine r_aload_n dX9_begin_97 rfl ?_
        refine r_getf (v := .ref (G.2.2.2 (42 + 1))) dX9_begin_98 fX_42_1 kX9 (by decide) lkf_X9_11 rfl ?_
        refine r_bipush (x := 41) dX9_begin_101 rfl ?_
        refine r_aload_n dX9_begin_103 rfl ?_
        refine r_getf (v := .ref (G.2.2.2 (23))) dX9_begin_104 fX_42_0 kX9 (by decide) lkf_X9_23 rfl ?_
        refine r_getf (v := .int (M9.1 23 5)) dX9_begin_107 fX_23_5 kX3 (by decide) lkf_X9_47 rfl ?_
        refine c_V (inv_SN (mi := mi_X9_begin) (rest := []) (X11_put_ok G aX_43p 41 (M9.1 23 5) M9) rfl (by decide) dX9_begin_110 lkm_X9_27 cal_X11_put rfl (Nat.le_of_ble_eq_true rfl) rfl) (fun M10 => ?_)
        exact r_vret dX9_begin_113 rfl rfl
      exact r_lk (X9_begin_L3_ok_42 G rfl hj97 zFU 0 M6) (And.intro rfl (And.intro rfl True.intro))
    exact r_lk (X9_begin_L2_ok_42 G rfl hj56 zFU 0 M3) (And.intro rfl (And.intro rfl True.intro))
  exact r_lk (X9_begin_L1_ok_42 G rfl hj23 zFU 0 M) (And.intro rfl (And.intro rfl True.intro))

theorem dX9_saveTo_0 : decode cX9_saveTo 0 = .ok (.iload_n 2, 1) := by decide +kernel
theorem dX9_saveTo_1 : decode cX9_saveTo 1 = .ok (.ifCond .lt 27, 3) := by decide +kernel
theorem dX9_saveTo_4 : decode cX9_saveTo 4 = .ok (.iload_n 2, 1) := by decide +kernel
theorem dX9_saveTo_5 : decode cX9_saveTo 5 = .ok (.aload_n 1, 1) := by decide +kernel
theorem dX9_saveTo_6 : decode cX9_saveTo 6 = .ok (.arraylength, 1) := by decide +kernel
theorem dX9_saveTo_7 : decode cX9_saveTo 7 = .ok (.bipush 42, 2) := by decide +kernel
theorem dX9_saveTo_9 : decode cX9_saveTo 9 = .ok (.idiv, 1) := by decide +kernel
theorem dX9_saveTo_10 : decode cX9_saveTo 10 = .ok (.if_icmp .ge 18, 3) := by decide +kernel
theorem dX9_saveTo_13 : decode cX9_saveTo 13 = .ok (.aload_n 0, 1) := by decide +kernel
theorem dX9_saveTo_14 : decode cX9_saveTo 14 = .ok (.getfield 11, 3) := by decide +kernel
theorem dX9_saveTo_17 : decode cX9_saveTo 17 = .ok (.iconst 0, 1) := by decide +kernel
theorem dX9_saveTo_18 : decode cX9_saveTo 18 = .ok (.aload_n 1, 1) := by decide +kernel
theorem dX9_saveTo_19 : decode cX9_saveTo 19 = .ok (.iload_n 2, 1) := by decide +kernel
theorem dX9_saveTo_20 : decode cX9_saveTo 20 = .ok (.bipush 42, 2) := by decide +kernel
theorem dX9_saveTo_22 : decode cX9_saveTo 22 = .ok (.imul, 1) := by decide +kernel
theorem dX9_saveTo_23 : decode cX9_saveTo 23 = .ok (.bipush 42, 2) := by decide +kernel
theorem dX9_saveTo_25 : decode cX9_saveTo 25 = .ok (.invokestatic 54, 3) := by decide +kernel
theorem dX9_saveTo_28 : decode cX9_saveTo 28 = .ok (.return_, 1) := by decide +kernel
abbrev mi_X9_saveTo : MI := (zTX, RX9, yX9_saveTo, cX9_saveTo, 3, none, 8)
theorem cal_X9_saveTo : zCalV mi_X9_saveTo 2 := ⟨⟨zTB_i4 33 (by decide +kernel), zTB_i4 31 (by decide +kernel), zTB_i4 32 (by decide +kernel), zTB_i1 8 (by decide +kernel)⟩, ⟨by decide, by decide, by decide +kernel⟩, by decide⟩
noncomputable def X9_saveTo (o0 : Nat) (a1 : Nat) (x2 : Int32) (M : Mem) : Option (Mem) :=
  if x2 < 0 then
    some M
  else
  if ((nI (zlen zTX a1)) / 42) ≤ x2 then
    some M
  else
  gd_ (cpOk 0 (x2 * 42) 42 (42) (zlen zTX a1) = true) (
  lt_ (uC M (o0 + 1) a1 ((0 : Int32).toNatClampNeg) ((x2 * 42).toNatClampNeg) ((42 : Int32).toNatClampNeg)) fun M3 =>
  some M3)
set_option maxRecDepth 100000 in
set_option maxHeartbeats 4000000 in
theorem X9_saveTo_ok_35 (G : Gh) {a1 : Nat} (ha1 : zar zTX a1 = some (0, zlen zTX a1)) (x2 : Int32) (M : Mem) : Mt G mi_X9_saveTo [.ref (G.2.2.2 (35)), .ref (G.2.2.2 (a1)), .int x2] M ((dO dV) (X9_saveTo 35 a1 x2 M)) := by
  refine Mt_of (lv := [some (.ref (G.2.2.2 (35))), some (.ref (G.2.2.2 (a1))), some (.int x2)]) (by decide) rfl (Nat.le_of_ble_eq_true rfl) rfl ?_
  unfold X9_saveTo
  refine r_iload_n dX9_saveTo_0 rfl ?_
  refine r_if_lt (tgt := 28) dX9_saveTo_1 rfl (fun h1 => ?_) (fun h1 => ?_)
  · exact r_vret dX9_saveTo_28 rfl rfl
  refine r_iload_n dX9_saveTo_4 rfl ?_
  refine r_aload_n dX9_saveTo_5 rfl ?_
  refine r_alen (v := nI (zlen zTX a1)) dX9_saveTo_6 ha1 (by decide) rfl ?_
  refine r_bipush (x := 42) dX9_saveTo_7 rfl ?_
  refine r_idiv dX9_saveTo_9 (by decide) ?_
  refine r_icmp_ge (tgt := 28) dX9_saveTo_10 rfl (fun h2 => ?_) (fun h2 => ?_)
  · exact r_vret dX9_saveTo_28 rfl rfl
  refine r_aload_n dX9_saveTo_13 rfl ?_
  refine r_getf (v := .ref (G.2.2.2 (35 + 1))) dX9_saveTo_14 fX_35_1 kX9 (by decide) lkf_X9_11 rfl ?_
  refine r_iconst (x := 0) dX9_saveTo_17 rfl ?_
  refine r_aload_n dX9_saveTo_18 rfl ?_
  refine r_iload_n dX9_saveTo_19 rfl ?_
  refine r_bipush (x := 42) dX9_saveTo_20 rfl ?_
  refine r_imul dX9_saveTo_22 ?_
  refine r_bipush (x := 42) dX9_saveTo_23 rfl ?_
  refine r_gd rfl (fun g4 => ?_)
  refine r_copy dX9_saveTo_25 lkm_X9_54 tw_c1 tw_c2 tw_c3 aX_36 ha1 g4 (by decide) (Nat.le_of_ble_eq_true rfl) (fun M3 => ?_)
  exact r_vret dX9_saveTo_28 rfl rfl
set_option maxRecDepth 100000 in
set_option maxHeartbeats 4000000 in
theorem X9_saveTo_ok_42 (G : Gh) {a1 : Nat} (ha1 : zar zTX a1 = some (0, zlen zTX a1)) (x2 : Int32) (M : Mem) : Mt G mi_X9_saveTo [.ref (G.2.2.2 (42)), .ref (G.2.2.2 (a1)), .int x2] M ((dO dV) (X9_saveTo 42 a1 x2 M)) := by
  refine Mt_of (lv := [some (.ref (G.2.2.2 (42))), some (.ref (G.2.2.2 (a1))), some (.int x2)]) (by decide) rfl (Nat.le_of_ble_eq_true rfl) rfl ?_
  unfold X9_saveTo
  refine r_iload_n dX9_saveTo_0 rfl ?_
  refine r_if_lt (tgt := 28) dX9_saveTo_1 rfl (fun h1 => ?_) (fun h1 => ?_)
  · exact r_vret dX9_saveTo_28 rfl rfl
  refine r_iload_n dX9_saveTo_4 rfl ?_
  refine r_aload_n dX9_saveTo_5 rfl ?_
  refine r_alen (v := nI (zlen zTX a1)) dX9_saveTo_6 ha1 (by decide) rfl ?_
  refine r_bipush (x := 42) dX9_saveTo_7 rfl ?_
  refine r_idiv dX9_saveTo_9 (by decide) ?_
  refine r_icmp_ge (tgt := 28) dX9_saveTo_10 rfl (fun h2 => ?_) (fun h2 => ?_)
  · exact r_vret dX9_saveTo_28 rfl rfl
  refine r_aload_n dX9_saveTo_13 rfl ?_
  refine r_getf (v := .ref (G.2.2.2 (42 + 1))) dX9_saveTo_14 fX_42_1 kX9 (by decide) lkf_X9_11 rfl ?_
  refine r_iconst (x := 0) dX9_saveTo_17 rfl ?_
  refine r_aload_n dX9_saveTo_18 rfl ?_
  refine r_iload_n dX9_saveTo_19 rfl ?_
  refine r_bipush (x := 42) dX9_saveTo_20 rfl ?_
  refine r_imul dX9_saveTo_22 ?_
  refine r_bipush (x := 42) dX9_saveTo_23 rfl ?_
  refine r_gd rfl (fun g4 => ?_)
  refine r_copy dX9_saveTo_25 lkm_X9_54 tw_c1 tw_c2 tw_c3 aX_43 ha1 g4 (by decide) (Nat.le_of_ble_eq_true rfl) (fun M3 => ?_)
  exact r_vret dX9_saveTo_28 rfl rfl

theorem dX0_forget_0 : decode cX0_forget 0 = .ok (.aload_n 0, 1) := by decide +kernel
theorem dX0_forget_1 : decode cX0_forget 1 = .ok (.iconst 0, 1) := by decide +kernel
theorem dX0_forget_2 : decode cX0_forget 2 = .ok (.putfield 19, 3) := by decide +kernel
theorem dX0_forget_5 : decode cX0_forget 5 = .ok (.aload_n 0, 1) := by decide +kernel
theorem dX0_forget_6 : decode cX0_forget 6 = .ok (.iconst 0, 1) := by decide +kernel
theorem dX0_forget_7 : decode cX0_forget 7 = .ok (.putfield 23, 3) := by decide +kernel
theorem dX0_forget_10 : decode cX0_forget 10 = .ok (.aload_n 0, 1) := by decide +kernel
theorem dX0_forget_11 : decode cX0_forget 11 = .ok (.iconst 0, 1) := by decide +kernel
theorem dX0_forget_12 : decode cX0_forget 12 = .ok (.putfield 26, 3) := by decide +kernel
theorem dX0_forget_15 : decode cX0_forget 15 = .ok (.aload_n 0, 1) := by decide +kernel
theorem dX0_forget_16 : decode cX0_forget 16 = .ok (.getfield 15, 3) := by decide +kernel
theorem dX0_forget_19 : decode cX0_forget 19 = .ok (.aload_n 0, 1) := by decide +kernel
theorem dX0_forget_20 : decode cX0_forget 20 = .ok (.getfield 11, 3) := by decide +kernel
theorem dX0_forget_23 : decode cX0_forget 23 = .ok (.iconst 0, 1) := by decide +kernel
theorem dX0_forget_24 : decode cX0_forget 24 = .ok (.invokevirtual 29, 3) := by decide +kernel
theorem dX0_forget_27 : decode cX0_forget 27 = .ok (.return_, 1) := by decide +kernel
abbrev mi_X0_forget : MI := (zTX, RX0, yX0_forget, cX0_forget, 1, none, 9)
theorem cal_X0_forget : zCalV mi_X0_forget 0 := ⟨⟨zTB_i4 29 (by decide +kernel), zTB_i4 27 (by decide +kernel), zTB_i4 28 (by decide +kernel), zTB_i1 9 (by decide +kernel)⟩, ⟨by decide, by decide, by decide +kernel⟩, by decide⟩
noncomputable def X0_forget (M : Mem) : Option (Mem) :=
  lt_ (uI M 39 2 0) fun M1 =>
  lt_ (uI M1 39 3 0) fun M2 =>
  lt_ (uI M2 39 4 0) fun M3 =>
  bo_ (X9_saveTo 35 40 0 M3) fun M4 =>
  some M4
set_option maxRecDepth 100000 in
set_option maxHeartbeats 4000000 in
theorem X0_forget_ok (G : Gh) (M : Mem) : Mt G mi_X0_forget [.ref (G.2.2.2 (39))] M ((dO dV) (X0_forget M)) := by
  refine Mt_of (lv := [some (.ref (G.2.2.2 (39)))]) (by decide) rfl (Nat.le_of_ble_eq_true rfl) rfl ?_
  unfold X0_forget
  refine r_aload_n dX0_forget_0 rfl ?_
  refine r_iconst (x := 0) dX0_forget_1 rfl ?_
  refine r_putI dX0_forget_2 fX_39_2 kX0 (by decide) rfl rfl lkf_X0_19 (fun _ => rfl) rfl rfl (fun M1 => ?_)
  refine r_aload_n dX0_forget_5 rfl ?_
  refine r_iconst (x := 0) dX0_forget_6 rfl ?_
  refine r_putI dX0_forget_7 fX_39_3 kX0 (by decide) rfl rfl lkf_X0_23 (fun _ => rfl) rfl rfl (fun M2 => ?_)
  refine r_aload_n dX0_forget_10 rfl ?_
  refine r_iconst (x := 0) dX0_forget_11 rfl ?_
  refine r_putI dX0_forget_12 fX_39_4 kX0 (by decide) rfl rfl lkf_X0_26 (fun _ => rfl) rfl rfl (fun M3 => ?_)
  refine r_aload_n dX0_forget_15 rfl ?_
  refine r_getf (v := .ref (G.2.2.2 (35))) dX0_forget_16 fX_39_0 kX0 (by decide) lkf_X0_15 rfl ?_
  refine r_aload_n dX0_forget_19 rfl ?_
  refine r_getf (v := .ref (G.2.2.2 (40))) dX0_forget_20 fX_39_1 kX0 (by decide) lkf_X0_11 rfl ?_
  refine r_iconst (x := 0) dX0_forget_23 rfl ?_
  refine c_OV rfl (inv_V (mi := mi_X0_forget) (b := 35) (rest := []) (X9_saveTo_ok_35 G aX_40p 0 M3) rfl (by decide) dX0_forget_24 lkm_X0_29 cal_X9_saveTo cX_35 rfl rfl (Nat.le_of_ble_eq_true rfl) rfl) (fun M4 => ?_)
  exact r_vret dX0_forget_27 rfl rfl

theorem dX7_clear_0 : decode cX7_clear 0 = .ok (.aload_n 0, 1) := by decide +kernel
theorem dX7_clear_1 : decode cX7_clear 1 = .ok (.iconst 0, 1) := by decide +kernel
theorem dX7_clear_2 : decode cX7_clear 2 = .ok (.putfield 15, 3) := by decide +kernel
theorem dX7_clear_5 : decode cX7_clear 5 = .ok (.return_, 1) := by decide +kernel
abbrev mi_X7_clear : MI := (zTX, RX7, yX7_clear, cX7_clear, 1, none, 2)
theorem cal_X7_clear : zCalV mi_X7_clear 0 := ⟨⟨zTB_i4 38 (by decide +kernel), zTB_i4 36 (by decide +kernel), zTB_i4 37 (by decide +kernel), zTB_i1 11 (by decide +kernel)⟩, ⟨by decide, by decide, by decide +kernel⟩, by decide⟩
noncomputable def X7_clear (M : Mem) : Mem :=
  lt_ (uI M 51 1 0) fun M1 =>
  M1
set_option maxRecDepth 100000 in
set_option maxHeartbeats 4000000 in
theorem X7_clear_ok (G : Gh) (M : Mem) : Mt G mi_X7_clear [.ref (G.2.2.2 (51))] M (dV (X7_clear M)) := by
  refine Mt_of (lv := [some (.ref (G.2.2.2 (51)))]) (by decide) rfl (Nat.le_of_ble_eq_true rfl) rfl ?_
  unfold X7_clear
  refine r_aload_n dX7_clear_0 rfl ?_
  refine r_iconst (x := 0) dX7_clear_1 rfl ?_
  refine r_putI dX7_clear_2 fX_51_1 kX7 (by decide) rfl rfl lkf_X7_15 (fun _ => rfl) rfl rfl (fun M1 => ?_)
  exact r_vret dX7_clear_5 rfl rfl

theorem dX8_forget_0 : decode cX8_forget 0 = .ok (.aload_n 0, 1) := by decide +kernel
theorem dX8_forget_1 : decode cX8_forget 1 = .ok (.iconst 0, 1) := by decide +kernel
theorem dX8_forget_2 : decode cX8_forget 2 = .ok (.putfield 43, 3) := by decide +kernel
theorem dX8_forget_5 : decode cX8_forget 5 = .ok (.return_, 1) := by decide +kernel
abbrev mi_X8_forget : MI := (zTX, RX8, yX8_forget, cX8_forget, 1, none, 2)
theorem cal_X8_forget : zCalV mi_X8_forget 0 := ⟨⟨zTB_i4 42 (by decide +kernel), zTB_i4 40 (by decide +kernel), zTB_i4 41 (by decide +kernel), zTB_i1 12 (by decide +kernel)⟩, ⟨by decide, by decide, by decide +kernel⟩, by decide⟩
noncomputable def X8_forget (M : Mem) : Mem :=
  lt_ (uI M 53 7 0) fun M1 =>
  M1
set_option maxRecDepth 100000 in
set_option maxHeartbeats 4000000 in
theorem X8_forget_ok (G : Gh) (M : Mem) : Mt G mi_X8_forget [.ref (G.2.2.2 (53))] M (dV (X8_forget M)) := by
  refine Mt_of (lv := [some (.ref (G.2.2.2 (53)))]) (by decide) rfl (Nat.le_of_ble_eq_true rfl) rfl ?_
  unfold X8_forget
  refine r_aload_n dX8_forget_0 rfl ?_
  refine r_iconst (x := 0) dX8_forget_1 rfl ?_
  refine r_putI dX8_forget_2 fX_53_7 kX8 (by decide) rfl rfl lkf_X8_43 (fun _ => rfl) rfl rfl (fun M1 => ?_)
  exact r_vret dX8_forget_5 rfl rfl

theorem dX11_mill_0 : decode cX11_mill 0 = .ok (.aload_n 0, 1) := by decide +kernel
theorem dX11_mill_1 : decode cX11_mill 1 = .ok (.getfield 21, 3) := by decide +kernel
theorem dX11_mill_4 : decode cX11_mill 4 = .ok (.invokevirtual 89, 3) := by decide +kernel
theorem dX11_mill_7 : decode cX11_mill 7 = .ok (.istore_n 1, 1) := by decide +kernel
theorem dX11_mill_8 : decode cX11_mill 8 = .ok (.aload_n 0, 1) := by decide +kernel
theorem dX11_mill_9 : decode cX11_mill 9 = .ok (.getfield 12, 3) := by decide +kernel
theorem dX11_mill_12 : decode cX11_mill 12 = .ok (.iconst 0, 1) := by decide +kernel
theorem dX11_mill_13 : decode cX11_mill 13 = .ok (.putfield 81, 3) := by decide +kernel
theorem dX11_mill_16 : decode cX11_mill 16 = .ok (.iload_n 1, 1) := by decide +kernel
theorem dX11_mill_17 : decode cX11_mill 17 = .ok (.ifCond .ne 5, 3) := by decide +kernel
theorem dX11_mill_20 : decode cX11_mill 20 = .ok (.iconst (-1), 1) := by decide +kernel
theorem dX11_mill_21 : decode cX11_mill 21 = .ok (.ireturn, 1) := by decide +kernel
theorem dX11_mill_22 : decode cX11_mill 22 = .ok (.aload_n 0, 1) := by decide +kernel
theorem dX11_mill_23 : decode cX11_mill 23 = .ok (.getfield 28, 3) := by decide +kernel
theorem dX11_mill_26 : decode cX11_mill 26 = .ok (.aload_n 0, 1) := by decide +kernel
theorem dX11_mill_27 : decode cX11_mill 27 = .ok (.getfield 21, 3) := by decide +kernel
theorem dX11_mill_30 : decode cX11_mill 30 = .ok (.getfield 93, 3) := by decide +kernel
theorem dX11_mill_33 : decode cX11_mill 33 = .ok (.invokevirtual 96, 3) := by decide +kernel
theorem dX11_mill_36 : decode cX11_mill 36 = .ok (.aload_n 0, 1) := by decide +kernel
theorem dX11_mill_37 : decode cX11_mill 37 = .ok (.getfield 37, 3) := by decide +kernel
theorem dX11_mill_40 : decode cX11_mill 40 = .ok (.invokevirtual 99, 3) := by decide +kernel
theorem dX11_mill_43 : decode cX11_mill 43 = .ok (.aload_n 0, 1) := by decide +kernel
theorem dX11_mill_44 : decode cX11_mill 44 = .ok (.getfield 46, 3) := by decide +kernel
theorem dX11_mill_47 : decode cX11_mill 47 = .ok (.invokevirtual 102, 3) := by decide +kernel
theorem dX11_mill_50 : decode cX11_mill 50 = .ok (.aload_n 0, 1) := by decide +kernel
theorem dX11_mill_51 : decode cX11_mill 51 = .ok (.getfield 62, 3) := by decide +kernel
theorem dX11_mill_54 : decode cX11_mill 54 = .ok (.invokevirtual 105, 3) := by decide +kernel
theorem dX11_mill_57 : decode cX11_mill 57 = .ok (.aload_n 0, 1) := by decide +kernel
theorem dX11_mill_58 : decode cX11_mill 58 = .ok (.getfield 69, 3) := by decide +kernel
theorem dX11_mill_61 : decode cX11_mill 61 = .ok (.invokevirtual 108, 3) := by decide +kernel
theorem dX11_mill_64 : decode cX11_mill 64 = .ok (.iconst 0, 1) := by decide +kernel
theorem dX11_mill_65 : decode cX11_mill 65 = .ok (.istore_n 2, 1) := by decide +kernel
theorem dX11_mill_66 : decode cX11_mill 66 = .ok (.iload_n 2, 1) := by decide +kernel
theorem dX11_mill_67 : decode cX11_mill 67 = .ok (.aload_n 0, 1) := by decide +kernel
theorem dX11_mill_68 : decode cX11_mill 68 = .ok (.getfield 77, 3) := by decide +kernel
theorem dX11_mill_71 : decode cX11_mill 71 = .ok (.arraylength, 1) := by decide +kernel
theorem dX11_mill_72 : decode cX11_mill 72 = .ok (.if_icmp .ge 16, 3) := by decide +kernel
theorem dX11_mill_75 : decode cX11_mill 75 = .ok (.aload_n 0, 1) := by decide +kernel
theorem dX11_mill_76 : decode cX11_mill 76 = .ok (.getfield 77, 3) := by decide +kernel
theorem dX11_mill_79 : decode cX11_mill 79 = .ok (.iload_n 2, 1) := by decide +kernel
theorem dX11_mill_80 : decode cX11_mill 80 = .ok (.iconst 0, 1) := by decide +kernel
theorem dX11_mill_81 : decode cX11_mill 81 = .ok (.bastore, 1) := by decide +kernel
theorem dX11_mill_82 : decode cX11_mill 82 = .ok (.iinc 2 1, 3) := by decide +kernel
theorem dX11_mill_85 : decode cX11_mill 85 = .ok (.goto (-19), 3) := by decide +kernel
theorem dX11_mill_88 : decode cX11_mill 88 = .ok (.aload_n 0, 1) := by decide +kernel
theorem dX11_mill_89 : decode cX11_mill 89 = .ok (.getfield 28, 3) := by decide +kernel
theorem dX11_mill_92 : decode cX11_mill 92 = .ok (.getfield 109, 3) := by decide +kernel
theorem dX11_mill_95 : decode cX11_mill 95 = .ok (.ireturn, 1) := by decide +kernel
abbrev mi_X11_mill : MI := (zTX, RX11, yX11_mill, cX11_mill, 3, (some .int), 111)
theorem cal_X11_mill : zCalV mi_X11_mill 0 := ⟨⟨zTB_i2 201 (by decide +kernel), zTB_i2 199 (by decide +kernel), zTB_i2 200 (by decide +kernel), zTB_i1 1 (by decide +kernel)⟩, ⟨by decide, by decide, by decide +kernel⟩, by decide⟩
noncomputable def X11_mill_L1 : Nat → Int32 → Mem → Option (Mem)
  | 0, _, _ => none
  | n + 1, c2, M =>
    if (3) ≤ c2 then
      some M
    else
    gd_ (inb c2 (3) = true) (
    lt_ (uI M 64 c2.toNatClampNeg 0) fun M12 =>
    X11_mill_L1 n (c2 + 1) M12)
noncomputable def X11_mill (M : Mem) : Option (Int32 × Mem) :=
  bp_ (X4_readMill M) fun b1 M2 =>
  lt_ (uI M2 1 1 0) fun M3 =>
  if b1 = true then
    bo_ (X3_become 23 4 M3) fun M5 =>
    bo_ (X9_begin 35 M5) fun M6 =>
    bo_ (X0_forget M6) fun M7 =>
    lt_ (X7_clear M7) fun M8 =>
    lt_ (X8_forget M8) fun M9 =>
    b1_ (α := Mem) (X11_mill_L1 zFU 0 M9) fun M13 =>
    some (M13.1 23 0, M13)
  else
  some ((-1), M3)
set_option maxRecDepth 100000 in
set_option maxHeartbeats 4000000 in
theorem X11_mill_L1_ok (G : Gh) {dn : Option (Mem) → Option (Option Value × Mem)} (hs : dn none = none) (hx : ∀ (M13 : Mem), Wr G mi_X11_mill dn 88 [some (.ref (G.2.2.2 (0))), none, none] [] M13 (some M13)) : ∀ (n : Nat) (c2 : Int32) (M : Mem), Wr G mi_X11_mill dn 66 [some (.ref (G.2.2.2 (0))), none, some (.int c2)] [] M (X11_mill_L1 n c2 M) := by
  intro n
  induction n with
  | zero => intro c2 M; exact r_none (by exact hs)
  | succ n ih =>
    intro c2 M
    rw [X11_mill_L1]
    refine r_iload_n dX11_mill_66 rfl ?_
    refine r_aload_n dX11_mill_67 rfl ?_
    refine r_getf (v := .ref (G.2.2.2 (64))) dX11_mill_68 fX_0_9 kX11 (by decide) lkf_X11_77 rfl ?_
    refine r_alen (v := 3) dX11_mill_71 aX_64 (by decide) rfl ?_
    refine r_icmp_ge (tgt := 88) dX11_mill_72 rfl (fun h10 => ?_) (fun h10 => ?_)
    · exact r_lk (hx M) (And.intro rfl True.intro)
    refine r_aload_n dX11_mill_75 rfl ?_
    refine r_getf (v := .ref (G.2.2.2 (64))) dX11_mill_76 fX_0_9 kX11 (by decide) lkf_X11_77 rfl ?_
    refine r_iload_n dX11_mill_79 rfl ?_
    refine r_iconst (x := 0) dX11_mill_80 rfl ?_
    refine r_gd (by exact hs) (fun g11 => ?_)
    refine r_zast dX11_mill_81 aX_64 (inb_in g11) rfl (y := 0) rfl (fun M12 => ?_)
    refine r_iinc (y := c2 + 1) (lv' := [some (.ref (G.2.2.2 (0))), none, some (.int (c2 + 1))]) dX11_mill_82 rfl rfl (Nat.le_of_ble_eq_true rfl) rfl rfl ?_
    refine r_goto (tgt := 66) dX11_mill_85 rfl ?_
    exact r_lk (ih (c2 + 1) M12) (And.intro rfl (And.intro rfl True.intro))
set_option maxRecDepth 100000 in
set_option maxHeartbeats 4000000 in
theorem X11_mill_ok (G : Gh) (M : Mem) : Mt G mi_X11_mill [.ref (G.2.2.2 (0))] M ((dO dIM) (X11_mill M)) := by
  refine Mt_of (lv := [some (.ref (G.2.2.2 (0)))]) (by decide) rfl (Nat.le_of_ble_eq_true rfl) rfl ?_
  refine r_le (lv' := [some (.ref (G.2.2.2 (0))), none, none]) (And.intro rfl True.intro) ?_
  unfold X11_mill
  refine r_aload_n dX11_mill_0 rfl ?_
  refine r_getf (v := .ref (G.2.2.2 (3))) dX11_mill_1 fX_0_1 kX11 (by decide) lkf_X11_21 rfl ?_
  refine c_OZM rfl (inv_V (mi := mi_X11_mill) (b := 3) (rest := []) (X4_readMill_ok G M) rfl (by decide) dX11_mill_4 lkm_X11_89 cal_X4_readMill cX_3 rfl rfl (Nat.le_of_ble_eq_true rfl) rfl) (fun b1 M2 => ?_)
  refine r_istore_n (lv' := [some (.ref (G.2.2.2 (0))), some (.int (b2i (b1))), none]) dX11_mill_7 (Nat.le_of_ble_eq_true rfl) rfl rfl ?_
  refine r_aload_n dX11_mill_8 rfl ?_
  refine r_getf (v := .ref (G.2.2.2 (1))) dX11_mill_9 fX_0_0 kX11 (by decide) lkf_X11_12 rfl ?_
  refine r_iconst (x := 0) dX11_mill_12 rfl ?_
  refine r_putI dX11_mill_13 fX_1_1 kX10 (by decide) rfl rfl lkf_X11_81 (fun _ => rfl) rfl rfl (fun M3 => ?_)
  refine r_iload_n dX11_mill_16 rfl ?_
  refine r_ifz_ne (tgt := 22) dX11_mill_17 rfl (fun h4 => ?_) (fun h4 => ?_)
  · refine r_aload_n dX11_mill_22 rfl ?_
    refine r_getf (v := .ref (G.2.2.2 (23))) dX11_mill_23 fX_0_2 kX11 (by decide) lkf_X11_28 rfl ?_
    refine r_aload_n dX11_mill_26 rfl ?_
    refine r_getf (v := .ref (G.2.2.2 (3))) dX11_mill_27 fX_0_1 kX11 (by decide) lkf_X11_21 rfl ?_
    refine r_getf (v := .ref (G.2.2.2 (4))) dX11_mill_30 fX_3_0 kX4 (by decide) lkf_X11_93 rfl ?_
    refine c_OV rfl (inv_V (mi := mi_X11_mill) (b := 23) (rest := []) (X3_become_ok_23_4 G M3) rfl (by decide) dX11_mill_33 lkm_X11_96 cal_X3_become cX_23 rfl rfl (Nat.le_of_ble_eq_true rfl) rfl) (fun M5 => ?_)
    refine r_aload_n dX11_mill_36 rfl ?_
    refine r_getf (v := .ref (G.2.2.2 (35))) dX11_mill_37 fX_0_3 kX11 (by decide) lkf_X11_37 rfl ?_
    refine c_OV rfl (inv_V (mi := mi_X11_mill) (b := 35) (rest := []) (X9_begin_ok_35 G M5) rfl (by decide) dX11_mill_40 lkm_X11_99 cal_X9_begin cX_35 rfl rfl (Nat.le_of_ble_eq_true rfl) rfl) (fun M6 => ?_)
    refine r_aload_n dX11_mill_43 rfl ?_
    refine r_getf (v := .ref (G.2.2.2 (39))) dX11_mill_44 fX_0_4 kX11 (by decide) lkf_X11_46 rfl ?_
    refine c_OV rfl (inv_V (mi := mi_X11_mill) (b := 39) (rest := []) (X0_forget_ok G M6) rfl (by decide) dX11_mill_47 lkm_X11_102 cal_X0_forget cX_39 rfl rfl (Nat.le_of_ble_eq_true rfl) rfl) (fun M7 => ?_)
    refine r_aload_n dX11_mill_50 rfl ?_
    refine r_getf (v := .ref (G.2.2.2 (51))) dX11_mill_51 fX_0_6 kX11 (by decide) lkf_X11_62 rfl ?_
    refine c_V (inv_V (mi := mi_X11_mill) (b := 51) (rest := []) (X7_clear_ok G M7) rfl (by decide) dX11_mill_54 lkm_X11_105 cal_X7_clear cX_51 rfl rfl (Nat.le_of_ble_eq_true rfl) rfl) (fun M8 => ?_)
    refine r_aload_n dX11_mill_57 rfl ?_
    refine r_getf (v := .ref (G.2.2.2 (53))) dX11_mill_58 fX_0_7 kX11 (by decide) lkf_X11_69 rfl ?_
    refine c_V (inv_V (mi := mi_X11_mill) (b := 53) (rest := []) (X8_forget_ok G M8) rfl (by decide) dX11_mill_61 lkm_X11_108 cal_X8_forget cX_53 rfl rfl (Nat.le_of_ble_eq_true rfl) rfl) (fun M9 => ?_)
    refine r_iconst (x := 0) dX11_mill_64 rfl ?_
    refine r_istore_n (lv' := [some (.ref (G.2.2.2 (0))), some (.int (b2i (b1))), some (.int 0)]) dX11_mill_65 (Nat.le_of_ble_eq_true rfl) rfl rfl ?_
    refine r_jB1 (j := 88) (lvj := fun M13 => [some (.ref (G.2.2.2 (0))), none, none]) (stj := fun M13 => []) (Mj := fun M13 => M13) (fun M13 => ?_) (fun hj88 => ?_)
    · refine r_aload_n dX11_mill_88 rfl ?_
      refine r_getf (v := .ref (G.2.2.2 (23))) dX11_mill_89 fX_0_2 kX11 (by decide) lkf_X11_28 rfl ?_
      refine r_getf (v := .int (M13.1 23 0)) dX11_mill_92 fX_23_0 kX3 (by decide) lkf_X11_109 rfl ?_
      exact r_iret (ty := .int) dX11_mill_95 rfl rfl rfl
    exact r_lk (X11_mill_L1_ok G rfl hj88 zFU 0 M9) (And.intro rfl (And.intro rfl True.intro))
  refine r_iconst (x := (-1)) dX11_mill_20 rfl ?_
  exact r_iret (ty := .int) dX11_mill_21 rfl rfl rfl

theorem dX4_faultFound_0 : decode cX4_faultFound 0 = .ok (.aload_n 0, 1) := by decide +kernel
theorem dX4_faultFound_1 : decode cX4_faultFound 1 = .ok (.getfield 40, 3) := by decide +kernel
theorem dX4_faultFound_4 : decode cX4_faultFound 4 = .ok (.getfield 57, 3) := by decide +kernel
theorem dX4_faultFound_7 : decode cX4_faultFound 7 = .ok (.ireturn, 1) := by decide +kernel
abbrev mi_X4_faultFound : MI := (zTX, RX4, yX4_faultFound, cX4_faultFound, 1, (some .int), 2)
theorem cal_X4_faultFound : zCalV mi_X4_faultFound 0 := ⟨⟨zTB_i4 50 (by decide +kernel), zTB_i4 48 (by decide +kernel), zTB_i4 49 (by decide +kernel), zTB_i1 3 (by decide +kernel)⟩, ⟨by decide, by decide, by decide +kernel⟩, by decide⟩
noncomputable def X4_faultFound (M : Mem) : Int32 :=
  M.1 16 5
set_option maxRecDepth 100000 in
set_option maxHeartbeats 4000000 in
theorem X4_faultFound_ok (G : Gh) (M : Mem) : Mt G mi_X4_faultFound [.ref (G.2.2.2 (3))] M ((dI M) (X4_faultFound M)) := by
  refine Mt_of (lv := [some (.ref (G.2.2.2 (3)))]) (by decide) rfl (Nat.le_of_ble_eq_true rfl) rfl ?_
  unfold X4_faultFound
  refine r_aload_n dX4_faultFound_0 rfl ?_
  refine r_getf (v := .ref (G.2.2.2 (16))) dX4_faultFound_1 fX_3_1 kX4 (by decide) lkf_X4_40 rfl ?_
  refine r_getf (v := .int (M.1 16 5)) dX4_faultFound_4 fX_16_5 kX6 (by decide) lkf_X4_57 rfl ?_
  exact r_iret (ty := .int) dX4_faultFound_7 rfl rfl rfl

theorem dX4_faultPlace_0 : decode cX4_faultPlace 0 = .ok (.aload_n 0, 1) := by decide +kernel
theorem dX4_faultPlace_1 : decode cX4_faultPlace 1 = .ok (.getfield 40, 3) := by decide +kernel
theorem dX4_faultPlace_4 : decode cX4_faultPlace 4 = .ok (.getfield 61, 3) := by decide +kernel
theorem dX4_faultPlace_7 : decode cX4_faultPlace 7 = .ok (.ireturn, 1) := by decide +kernel
abbrev mi_X4_faultPlace : MI := (zTX, RX4, yX4_faultPlace, cX4_faultPlace, 1, (some .int), 2)
theorem cal_X4_faultPlace : zCalV mi_X4_faultPlace 0 := ⟨⟨zTB_i4 54 (by decide +kernel), zTB_i4 52 (by decide +kernel), zTB_i4 53 (by decide +kernel), zTB_i1 3 (by decide +kernel)⟩, ⟨by decide, by decide, by decide +kernel⟩, by decide⟩
noncomputable def X4_faultPlace (M : Mem) : Int32 :=
  M.1 16 6
set_option maxRecDepth 100000 in
set_option maxHeartbeats 4000000 in
theorem X4_faultPlace_ok (G : Gh) (M : Mem) : Mt G mi_X4_faultPlace [.ref (G.2.2.2 (3))] M ((dI M) (X4_faultPlace M)) := by
  refine Mt_of (lv := [some (.ref (G.2.2.2 (3)))]) (by decide) rfl (Nat.le_of_ble_eq_true rfl) rfl ?_
  unfold X4_faultPlace
  refine r_aload_n dX4_faultPlace_0 rfl ?_
  refine r_getf (v := .ref (G.2.2.2 (16))) dX4_faultPlace_1 fX_3_1 kX4 (by decide) lkf_X4_40 rfl ?_
  refine r_getf (v := .int (M.1 16 6)) dX4_faultPlace_4 fX_16_6 kX6 (by decide) lkf_X4_61 rfl ?_
  exact r_iret (ty := .int) dX4_faultPlace_7 rfl rfl rfl

theorem dX11_fault_0 : decode cX11_fault 0 = .ok (.iload_n 1, 1) := by decide +kernel
theorem dX11_fault_1 : decode cX11_fault 1 = .ok (.ifCond .ne 11, 3) := by decide +kernel
theorem dX11_fault_4 : decode cX11_fault 4 = .ok (.aload_n 0, 1) := by decide +kernel
theorem dX11_fault_5 : decode cX11_fault 5 = .ok (.getfield 21, 3) := by decide +kernel
theorem dX11_fault_8 : decode cX11_fault 8 = .ok (.invokevirtual 112, 3) := by decide +kernel
theorem dX11_fault_11 : decode cX11_fault 11 = .ok (.ireturn, 1) := by decide +kernel
theorem dX11_fault_12 : decode cX11_fault 12 = .ok (.iload_n 1, 1) := by decide +kernel
theorem dX11_fault_13 : decode cX11_fault 13 = .ok (.iconst 1, 1) := by decide +kernel
theorem dX11_fault_14 : decode cX11_fault 14 = .ok (.if_icmp .ne 13, 3) := by decide +kernel
theorem dX11_fault_17 : decode cX11_fault 17 = .ok (.aload_n 0, 1) := by decide +kernel
theorem dX11_fault_18 : decode cX11_fault 18 = .ok (.getfield 21, 3) := by decide +kernel
theorem dX11_fault_21 : decode cX11_fault 21 = .ok (.invokevirtual 116, 3) := by decide +kernel
theorem dX11_fault_24 : decode cX11_fault 24 = .ok (.goto 4, 3) := by decide +kernel
theorem dX11_fault_27 : decode cX11_fault 27 = .ok (.iconst (-1), 1) := by decide +kernel
theorem dX11_fault_28 : decode cX11_fault 28 = .ok (.ireturn, 1) := by decide +kernel
abbrev mi_X11_fault : MI := (zTX, RX11, yX11_fault, cX11_fault, 2, (some .int), 3)
theorem cal_X11_fault : zCalV mi_X11_fault 1 := ⟨⟨zTB_i4 46 (by decide +kernel), zTB_i4 44 (by decide +kernel), zTB_i4 45 (by decide +kernel), zTB_i1 1 (by decide +kernel)⟩, ⟨by decide, by decide, by decide +kernel⟩, by decide⟩
noncomputable def X11_fault (x1 : Int32) (M : Mem) : Int32 :=
  if x1 = 0 then
    (X4_faultFound M)
  else
  if x1 = 1 then
    (X4_faultPlace M)
  else
  (-1)
set_option maxRecDepth 100000 in
set_option maxHeartbeats 4000000 in
theorem X11_fault_ok (G : Gh) (x1 : Int32) (M : Mem) : Mt G mi_X11_fault [.ref (G.2.2.2 (0)), .int x1] M ((dI M) (X11_fault x1 M)) := by
  refine Mt_of (lv := [some (.ref (G.2.2.2 (0))), some (.int x1)]) (by decide) rfl (Nat.le_of_ble_eq_true rfl) rfl ?_
  unfold X11_fault
  refine r_iload_n dX11_fault_0 rfl ?_
  refine r_if_ne (tgt := 12) dX11_fault_1 rfl (fun h1 => ?_) (fun h1 => ?_)
  · refine r_aload_n dX11_fault_4 rfl ?_
    refine r_getf (v := .ref (G.2.2.2 (3))) dX11_fault_5 fX_0_1 kX11 (by decide) lkf_X11_21 rfl ?_
    refine c_I (inv_V (mi := mi_X11_fault) (b := 3) (rest := []) (X4_faultFound_ok G M) rfl (by decide) dX11_fault_8 lkm_X11_112 cal_X4_faultFound cX_3 rfl rfl (Nat.le_of_ble_eq_true rfl) rfl) ?_
    exact r_iret (ty := .int) dX11_fault_11 rfl rfl rfl
  refine r_iload_n dX11_fault_12 rfl ?_
  refine r_iconst (x := 1) dX11_fault_13 rfl ?_
  refine r_icmp_ne (tgt := 27) dX11_fault_14 rfl (fun h2 => ?_) (fun h2 => ?_)
  · refine r_aload_n dX11_fault_17 rfl ?_
    refine r_getf (v := .ref (G.2.2.2 (3))) dX11_fault_18 fX_0_1 kX11 (by decide) lkf_X11_21 rfl ?_
    refine c_I (inv_V (mi := mi_X11_fault) (b := 3) (rest := []) (X4_faultPlace_ok G M) rfl (by decide) dX11_fault_21 lkm_X11_116 cal_X4_faultPlace cX_3 rfl rfl (Nat.le_of_ble_eq_true rfl) rfl) ?_
    refine r_goto (tgt := 28) dX11_fault_24 rfl ?_
    exact r_iret (ty := .int) dX11_fault_28 rfl rfl rfl
  refine r_iconst (x := (-1)) dX11_fault_27 rfl ?_
  exact r_iret (ty := .int) dX11_fault_28 rfl rfl rfl

theorem dX3_hasMan_0 : decode cX3_hasMan 0 = .ok (.iload_n 1, 1) := by decide +kernel
theorem dX3_hasMan_1 : decode cX3_hasMan 1 = .ok (.ifCond .lt 15, 3) := by decide +kernel
theorem dX3_hasMan_4 : decode cX3_hasMan 4 = .ok (.iload_n 1, 1) := by decide +kernel
theorem dX3_hasMan_5 : decode cX3_hasMan 5 = .ok (.aload_n 0, 1) := by decide +kernel
theorem dX3_hasMan_6 : decode cX3_hasMan 6 = .ok (.getfield 47, 3) := by decide +kernel
theorem dX3_hasMan_9 : decode cX3_hasMan 9 = .ok (.if_icmp .ge 7, 3) := by decide +kernel
theorem dX3_hasMan_12 : decode cX3_hasMan 12 = .ok (.iconst 1, 1) := by decide +kernel
theorem dX3_hasMan_13 : decode cX3_hasMan 13 = .ok (.goto 4, 3) := by decide +kernel
theorem dX3_hasMan_16 : decode cX3_hasMan 16 = .ok (.iconst 0, 1) := by decide +kernel
theorem dX3_hasMan_17 : decode cX3_hasMan 17 = .ok (.ireturn, 1) := by decide +kernel
abbrev mi_X3_hasMan : MI := (zTX, RX3, yX3_hasMan, cX3_hasMan, 2, (some .boolean), 2)
theorem cal_X3_hasMan : zCalV mi_X3_hasMan 1 := ⟨⟨zTB_i4 62 (by decide +kernel), zTB_i4 60 (by decide +kernel), zTB_i4 61 (by decide +kernel), zTB_i1 4 (by decide +kernel)⟩, ⟨by decide, by decide, by decide +kernel⟩, by decide⟩
noncomputable def X3_hasMan (o0 : Nat) (x1 : Int32) (M : Mem) : Bool :=
  if x1 < 0 then
    false
  else
  if (M.1 o0 0) ≤ x1 then
    false
  else
  true
set_option maxRecDepth 100000 in
set_option maxHeartbeats 4000000 in
theorem X3_hasMan_ok_4 (G : Gh) (x1 : Int32) (M : Mem) : Mt G mi_X3_hasMan [.ref (G.2.2.2 (4)), .int x1] M ((dZ M) (X3_hasMan 4 x1 M)) := by
  refine Mt_of (lv := [some (.ref (G.2.2.2 (4))), some (.int x1)]) (by decide) rfl (Nat.le_of_ble_eq_true rfl) rfl ?_
  unfold X3_hasMan
  refine r_iload_n dX3_hasMan_0 rfl ?_
  refine r_if_lt (tgt := 16) dX3_hasMan_1 rfl (fun h1 => ?_) (fun h1 => ?_)
  · refine r_iconst (x := 0) dX3_hasMan_16 rfl ?_
    exact r_iret (ty := .boolean) dX3_hasMan_17 rfl rfl rfl
  refine r_iload_n dX3_hasMan_4 rfl ?_
  refine r_aload_n dX3_hasMan_5 rfl ?_
  refine r_getf (v := .int (M.1 4 0)) dX3_hasMan_6 fX_4_0 kX3 (by decide) lkf_X3_47 rfl ?_
  refine r_icmp_ge (tgt := 16) dX3_hasMan_9 rfl (fun h2 => ?_) (fun h2 => ?_)
  · refine r_iconst (x := 0) dX3_hasMan_16 rfl ?_
    exact r_iret (ty := .boolean) dX3_hasMan_17 rfl rfl rfl
  refine r_iconst (x := 1) dX3_hasMan_12 rfl ?_
  refine r_goto (tgt := 17) dX3_hasMan_13 rfl ?_
  exact r_iret (ty := .boolean) dX3_hasMan_17 rfl rfl rfl
set_option maxRecDepth 100000 in
set_option maxHeartbeats 4000000 in
theorem X3_hasMan_ok_23 (G : Gh) (x1 : Int32) (M : Mem) : Mt G mi_X3_hasMan [.ref (G.2.2.2 (23)), .int x1] M ((dZ M) (X3_hasMan 23 x1 M)) := by
  refine Mt_of (lv := [some (.ref (G.2.2.2 (23))), some (.int x1)]) (by decide) rfl (Nat.le_of_ble_eq_true rfl) rfl ?_
  unfold X3_hasMan
  refine r_iload_n dX3_hasMan_0 rfl ?_
  refine r_if_lt (tgt := 16) dX3_hasMan_1 rfl (fun h1 => ?_) (fun h1 => ?_)
  · refine r_iconst (x := 0) dX3_hasMan_16 rfl ?_
    exact r_iret (ty := .boolean) dX3_hasMan_17 rfl rfl rfl
  refine r_iload_n dX3_hasMan_4 rfl ?_
  refine r_aload_n dX3_hasMan_5 rfl ?_
  refine r_getf (v := .int (M.1 23 0)) dX3_hasMan_6 fX_23_0 kX3 (by decide) lkf_X3_47 rfl ?_
  refine r_icmp_ge (tgt := 16) dX3_hasMan_9 rfl (fun h2 => ?_) (fun h2 => ?_)
  · refine r_iconst (x := 0) dX3_hasMan_16 rfl ?_
    exact r_iret (ty := .boolean) dX3_hasMan_17 rfl rfl rfl
  refine r_iconst (x := 1) dX3_hasMan_12 rfl ?_
  refine r_goto (tgt := 17) dX3_hasMan_13 rfl ?_
  exact r_iret (ty := .boolean) dX3_hasMan_17 rfl rfl rfl

theorem dX9_cropOf_0 : decode cX9_cropOf 0 = .ok (.aload_n 0, 1) := by decide +kernel
theorem dX9_cropOf_1 : decode cX9_cropOf 1 = .ok (.getfield 11, 3) := by decide +kernel
theorem dX9_cropOf_4 : decode cX9_cropOf 4 = .ok (.bipush 30, 2) := by decide +kernel
theorem dX9_cropOf_6 : decode cX9_cropOf 6 = .ok (.iload_n 1, 1) := by decide +kernel
theorem dX9_cropOf_7 : decode cX9_cropOf 7 = .ok (.iadd, 1) := by decide +kernel
theorem dX9_cropOf_8 : decode cX9_cropOf 8 = .ok (.invokestatic 36, 3) := by decide +kernel
theorem dX9_cropOf_11 : decode cX9_cropOf 11 = .ok (.ireturn, 1) := by decide +kernel
abbrev mi_X9_cropOf : MI := (zTX, RX9, yX9_cropOf, cX9_cropOf, 2, (some .int), 3)
theorem cal_X9_cropOf : zCalV mi_X9_cropOf 1 := ⟨⟨zTB_i4 67 (by decide +kernel), zTB_i4 65 (by decide +kernel), zTB_i4 66 (by decide +kernel), zTB_i1 8 (by decide +kernel)⟩, ⟨by decide, by decide, by decide +kernel⟩, by decide⟩
noncomputable def X9_cropOf (o0 : Nat) (x1 : Int32) (M : Mem) : Int32 :=
  (X11_cell (o0 + 1) (30 + x1) M)
set_option maxRecDepth 100000 in
set_option maxHeartbeats 4000000 in
theorem X9_cropOf_ok_35 (G : Gh) (x1 : Int32) (M : Mem) : Mt G mi_X9_cropOf [.ref (G.2.2.2 (35)), .int x1] M ((dI M) (X9_cropOf 35 x1 M)) := by
  refine Mt_of (lv := [some (.ref (G.2.2.2 (35))), some (.int x1)]) (by decide) rfl (Nat.le_of_ble_eq_true rfl) rfl ?_
  unfold X9_cropOf
  refine r_aload_n dX9_cropOf_0 rfl ?_
  refine r_getf (v := .ref (G.2.2.2 (35 + 1))) dX9_cropOf_1 fX_35_1 kX9 (by decide) lkf_X9_11 rfl ?_
  refine r_bipush (x := 30) dX9_cropOf_4 rfl ?_
  refine r_iload_n dX9_cropOf_6 rfl ?_
  refine r_iadd dX9_cropOf_7 ?_
  refine c_I (inv_SN (mi := mi_X9_cropOf) (rest := []) (X11_cell_ok G aX_36p (30 + x1) M) rfl (by decide) dX9_cropOf_8 lkm_X9_36 cal_X11_cell rfl (Nat.le_of_ble_eq_true rfl) rfl) ?_
  exact r_iret (ty := .int) dX9_cropOf_11 rfl rfl rfl
set_option maxRecDepth 100000 in
set_option maxHeartbeats 4000000 in
theorem X9_cropOf_ok_42 (G : Gh) (x1 : Int32) (M : Mem) : Mt G mi_X9_cropOf [.ref (G.2.2.2 (42)), .int x1] M ((dI M) (X9_cropOf 42 x1 M)) := by
  refine Mt_of (lv := [some (.ref (G.2.2.2 (42))), some (.int x1)]) (by decide) rfl (Nat.le_of_ble_eq_true rfl) rfl ?_
  unfold X9_cropOf
  refine r_aload_n dX9_cropOf_0 rfl ?_
  refine r_getf (v := .ref (G.2.2.2 (42 + 1))) dX9_cropOf_1 fX_42_1 kX9 (by decide) lkf_X9_11 rfl ?_
  refine r_bipush (x := 30) dX9_cropOf_4 rfl ?_
  refine r_iload_n dX9_cropOf_6 rfl ?_
  refine r_iadd dX9_cropOf_7 ?_
  refine c_I (inv_SN (mi := mi_X9_cropOf) (rest := []) (X11_cell_ok G aX_43p (30 + x1) M) rfl (by decide) dX9_cropOf_8 lkm_X9_36 cal_X11_cell rfl (Nat.le_of_ble_eq_true rfl) rfl) ?_
  exact r_iret (ty := .int) dX9_cropOf_11 rfl rfl rfl

theorem dX9_spentBy_0 : decode cX9_spentBy 0 = .ok (.aload_n 0, 1) := by decide +kernel
theorem dX9_spentBy_1 : decode cX9_spentBy 1 = .ok (.getfield 11, 3) := by decide +kernel
theorem dX9_spentBy_4 : decode cX9_spentBy 4 = .ok (.bipush 35, 2) := by decide +kernel
theorem dX9_spentBy_6 : decode cX9_spentBy 6 = .ok (.iload_n 1, 1) := by decide +kernel
theorem dX9_spentBy_7 : decode cX9_spentBy 7 = .ok (.iadd, 1) := by decide +kernel
theorem dX9_spentBy_8 : decode cX9_spentBy 8 = .ok (.invokestatic 36, 3) := by decide +kernel
theorem dX9_spentBy_11 : decode cX9_spentBy 11 = .ok (.ireturn, 1) := by decide +kernel
abbrev mi_X9_spentBy : MI := (zTX, RX9, yX9_spentBy, cX9_spentBy, 2, (some .int), 3)
theorem cal_X9_spentBy : zCalV mi_X9_spentBy 1 := ⟨⟨zTB_i4 71 (by decide +kernel), zTB_i4 69 (by decide +kernel), zTB_i4 70 (by decide +kernel), zTB_i1 8 (by decide +kernel)⟩, ⟨by decide, by decide, by decide +kernel⟩, by decide⟩
noncomputable def X9_spentBy (o0 : Nat) (x1 : Int32) (M : Mem) : Int32 :=
  (X11_cell (o0 + 1) (35 + x1) M)
set_option maxRecDepth 100000 in
set_option maxHeartbeats 4000000 in
theorem X9_spentBy_ok_35 (G : Gh) (x1 : Int32) (M : Mem) : Mt G mi_X9_spentBy [.ref (G.2.2.2 (35)), .int x1] M ((dI M) (X9_spentBy 35 x1 M)) := by
  refine Mt_of (lv := [some (.ref (G.2.2.2 (35))), some (.int x1)]) (by decide) rfl (Nat.le_of_ble_eq_true rfl) rfl ?_
  unfold X9_spentBy
  refine r_aload_n dX9_spentBy_0 rfl ?_
  refine r_getf (v := .ref (G.2.2.2 (35 + 1))) dX9_spentBy_1 fX_35_1 kX9 (by decide) lkf_X9_11 rfl ?_
  refine r_bipush (x := 35) dX9_spentBy_4 rfl ?_
  refine r_iload_n dX9_spentBy_6 rfl ?_
  refine r_iadd dX9_spentBy_7 ?_
  refine c_I (inv_SN (mi := mi_X9_spentBy) (rest := []) (X11_cell_ok G aX_36p (35 + x1) M) rfl (by decide) dX9_spentBy_8 lkm_X9_36 cal_X11_cell rfl (Nat.le_of_ble_eq_true rfl) rfl) ?_
  exact r_iret (ty := .int) dX9_spentBy_11 rfl rfl rfl
set_option maxRecDepth 100000 in
set_option maxHeartbeats 4000000 in
theorem X9_spentBy_ok_42 (G : Gh) (x1 : Int32) (M : Mem) : Mt G mi_X9_spentBy [.ref (G.2.2.2 (42)), .int x1] M ((dI M) (X9_spentBy 42 x1 M)) := by
  refine Mt_of (lv := [some (.ref (G.2.2.2 (42))), some (.int x1)]) (by decide) rfl (Nat.le_of_ble_eq_true rfl) rfl ?_
  unfold X9_spentBy
  refine r_aload_n dX9_spentBy_0 rfl ?_
  refine r_getf (v := .ref (G.2.2.2 (42 + 1))) dX9_spentBy_1 fX_42_1 kX9 (by decide) lkf_X9_11 rfl ?_
  refine r_bipush (x := 35) dX9_spentBy_4 rfl ?_
  refine r_iload_n dX9_spentBy_6 rfl ?_
  refine r_iadd dX9_spentBy_7 ?_
  refine c_I (inv_SN (mi := mi_X9_spentBy) (rest := []) (X11_cell_ok G aX_43p (35 + x1) M) rfl (by decide) dX9_spentBy_8 lkm_X9_36 cal_X11_cell rfl (Nat.le_of_ble_eq_true rfl) rfl) ?_
  exact r_iret (ty := .int) dX9_spentBy_11 rfl rfl rfl

theorem dX9_overAt_0 : decode cX9_overAt 0 = .ok (.aload_n 0, 1) := by decide +kernel
theorem dX9_overAt_1 : decode cX9_overAt 1 = .ok (.getfield 11, 3) := by decide +kernel
theorem dX9_overAt_4 : decode cX9_overAt 4 = .ok (.bipush 15, 2) := by decide +kernel
theorem dX9_overAt_6 : decode cX9_overAt 6 = .ok (.iload_n 1, 1) := by decide +kernel
theorem dX9_overAt_7 : decode cX9_overAt 7 = .ok (.iconst 3, 1) := by decide +kernel
theorem dX9_overAt_8 : decode cX9_overAt 8 = .ok (.imul, 1) := by decide +kernel
theorem dX9_overAt_9 : decode cX9_overAt 9 = .ok (.iadd, 1) := by decide +kernel
theorem dX9_overAt_10 : decode cX9_overAt 10 = .ok (.iload_n 2, 1) := by decide +kernel
theorem dX9_overAt_11 : decode cX9_overAt 11 = .ok (.iadd, 1) := by decide +kernel
theorem dX9_overAt_12 : decode cX9_overAt 12 = .ok (.invokestatic 36, 3) := by decide +kernel
theorem dX9_overAt_15 : decode cX9_overAt 15 = .ok (.ireturn, 1) := by decide +kernel
abbrev mi_X9_overAt : MI := (zTX, RX9, yX9_overAt, cX9_overAt, 3, (some .int), 3)
theorem cal_X9_overAt : zCalV mi_X9_overAt 2 := ⟨⟨zTB_i4 83 (by decide +kernel), zTB_i4 81 (by decide +kernel), zTB_i4 82 (by decide +kernel), zTB_i1 8 (by decide +kernel)⟩, ⟨by decide, by decide, by decide +kernel⟩, by decide⟩
noncomputable def X9_overAt (o0 : Nat) (x1 : Int32) (x2 : Int32) (M : Mem) : Int32 :=
  (X11_cell (o0 + 1) ((15 + (x1 * 3)) + x2) M)
set_option maxRecDepth 100000 in
set_option maxHeartbeats 4000000 in
theorem X9_overAt_ok_35 (G : Gh) (x1 : Int32) (x2 : Int32) (M : Mem) : Mt G mi_X9_overAt [.ref (G.2.2.2 (35)), .int x1, .int x2] M ((dI M) (X9_overAt 35 x1 x2 M)) := by
  refine Mt_of (lv := [some (.ref (G.2.2.2 (35))), some (.int x1), some (.int x2)]) (by decide) rfl (Nat.le_of_ble_eq_true rfl) rfl ?_
  unfold X9_overAt
  refine r_aload_n dX9_overAt_0 rfl ?_
  refine r_getf (v := .ref (G.2.2.2 (35 + 1))) dX9_overAt_1 fX_35_1 kX9 (by decide) lkf_X9_11 rfl ?_
  refine r_bipush (x := 15) dX9_overAt_4 rfl ?_
  refine r_iload_n dX9_overAt_6 rfl ?_
  refine r_iconst (x := 3) dX9_overAt_7 rfl ?_
  refine r_imul dX9_overAt_8 ?_
  refine r_iadd dX9_overAt_9 ?_
  refine r_iload_n dX9_overAt_10 rfl ?_
  refine r_iadd dX9_overAt_11 ?_
  refine c_I (inv_SN (mi := mi_X9_overAt) (rest := []) (X11_cell_ok G aX_36p ((15 + (x1 * 3)) + x2) M) rfl (by decide) dX9_overAt_12 lkm_X9_36 cal_X11_cell rfl (Nat.le_of_ble_eq_true rfl) rfl) ?_
  exact r_iret (ty := .int) dX9_overAt_15 rfl rfl rfl
set_option maxRecDepth 100000 in
set_option maxHeartbeats 4000000 in
theorem X9_overAt_ok_42 (G : Gh) (x1 : Int32) (x2 : Int32) (M : Mem) : Mt G mi_X9_overAt [.ref (G.2.2.2 (42)), .int x1, .int x2] M ((dI M) (X9_overAt 42 x1 x2 M)) := by
  refine Mt_of (lv := [some (.ref (G.2.2.2 (42))), some (.int x1), some (.int x2)]) (by decide) rfl (Nat.le_of_ble_eq_true rfl) rfl ?_
  unfold X9_overAt
  refine r_aload_n dX9_overAt_0 rfl ?_
  refine r_getf (v := .ref (G.2.2.2 (42 + 1))) dX9_overAt_1 fX_42_1 kX9 (by decide) lkf_X9_11 rfl ?_
  refine r_bipush (x := 15) dX9_overAt_4 rfl ?_
  refine r_iload_n dX9_overAt_6 rfl ?_
  refine r_iconst (x := 3) dX9_overAt_7 rfl ?_
  refine r_imul dX9_overAt_8 ?_
  refine r_iadd dX9_overAt_9 ?_
  refine r_iload_n dX9_overAt_10 rfl ?_
  refine r_iadd dX9_overAt_11 ?_
  refine c_I (inv_SN (mi := mi_X9_overAt) (rest := []) (X11_cell_ok G aX_43p ((15 + (x1 * 3)) + x2) M) rfl (by decide) dX9_overAt_12 lkm_X9_36 cal_X11_cell rfl (Nat.le_of_ble_eq_true rfl) rfl) ?_
  exact r_iret (ty := .int) dX9_overAt_15 rfl rfl rfl

theorem dX3_reach_0 : decode cX3_reach 0 = .ok (.iload_n 1, 1) := by decide +kernel
theorem dX3_reach_1 : decode cX3_reach 1 = .ok (.iload_n 2, 1) := by decide +kernel
theorem dX3_reach_2 : decode cX3_reach 2 = .ok (.if_icmp .ne 7, 3) := by decide +kernel
theorem dX3_reach_5 : decode cX3_reach 5 = .ok (.iload_n 3, 1) := by decide +kernel
theorem dX3_reach_6 : decode cX3_reach 6 = .ok (.goto 23, 3) := by decide +kernel
theorem dX3_reach_9 : decode cX3_reach 9 = .ok (.iload_n 3, 1) := by decide +kernel
theorem dX3_reach_10 : decode cX3_reach 10 = .ok (.bipush 10, 2) := by decide +kernel
theorem dX3_reach_12 : decode cX3_reach 12 = .ok (.aload_n 0, 1) := by decide +kernel
theorem dX3_reach_13 : decode cX3_reach 13 = .ok (.getfield 18, 3) := by decide +kernel
theorem dX3_reach_16 : decode cX3_reach 16 = .ok (.iload_n 1, 1) := by decide +kernel
theorem dX3_reach_17 : decode cX3_reach 17 = .ok (.iload_n 2, 1) := by decide +kernel
theorem dX3_reach_18 : decode cX3_reach 18 = .ok (.invokestatic 84, 3) := by decide +kernel
theorem dX3_reach_21 : decode cX3_reach 21 = .ok (.invokestatic 94, 3) := by decide +kernel
theorem dX3_reach_24 : decode cX3_reach 24 = .ok (.isub, 1) := by decide +kernel
theorem dX3_reach_25 : decode cX3_reach 25 = .ok (.imul, 1) := by decide +kernel
theorem dX3_reach_26 : decode cX3_reach 26 = .ok (.bipush 10, 2) := by decide +kernel
theorem dX3_reach_28 : decode cX3_reach 28 = .ok (.idiv, 1) := by decide +kernel
theorem dX3_reach_29 : decode cX3_reach 29 = .ok (.ireturn, 1) := by decide +kernel
abbrev mi_X3_reach : MI := (zTX, RX3, yX3_reach, cX3_reach, 4, (some .int), 8)
theorem cal_X3_reach : zCalV mi_X3_reach 3 := ⟨⟨zTB_i4 87 (by decide +kernel), zTB_i4 85 (by decide +kernel), zTB_i4 86 (by decide +kernel), zTB_i1 4 (by decide +kernel)⟩, ⟨by decide, by decide, by decide +kernel⟩, by decide⟩
noncomputable def X3_reach (o0 : Nat) (x1 : Int32) (x2 : Int32) (x3 : Int32) (M : Mem) : Int32 :=
  if x1 = x2 then
    x3
  else
  (x3 * (10 - (X11_cell (o0 + 3) (if x2 < x1 then x2 else x1) M))) / 10
set_option maxRecDepth 100000 in
set_option maxHeartbeats 4000000 in
theorem X3_reach_ok_4 (G : Gh) (x1 : Int32) (x2 : Int32) (x3 : Int32) (M : Mem) : Mt G mi_X3_reach [.ref (G.2.2.2 (4)), .int x1, .int x2, .int x3] M ((dI M) (X3_reach 4 x1 x2 x3 M)) := by
  refine Mt_of (lv := [some (.ref (G.2.2.2 (4))), some (.int x1), some (.int x2), some (.int x3)]) (by decide) rfl (Nat.le_of_ble_eq_true rfl) rfl ?_
  unfold X3_reach
  refine r_iload_n dX3_reach_0 rfl ?_
  refine r_iload_n dX3_reach_1 rfl ?_
  refine r_icmp_ne (tgt := 9) dX3_reach_2 rfl (fun h1 => ?_) (fun h1 => ?_)
  · refine r_iload_n dX3_reach_5 rfl ?_
    refine r_goto (tgt := 29) dX3_reach_6 rfl ?_
    exact r_iret (ty := .int) dX3_reach_29 rfl rfl rfl
  refine r_iload_n dX3_reach_9 rfl ?_
  refine r_bipush (x := 10) dX3_reach_10 rfl ?_
  refine r_aload_n dX3_reach_12 rfl ?_
  refine r_getf (v := .ref (G.2.2.2 (4 + 3))) dX3_reach_13 fX_4_8 kX3 (by decide) lkf_X3_18 rfl ?_
  refine r_iload_n dX3_reach_16 rfl ?_
  refine r_iload_n dX3_reach_17 rfl ?_
  refine r_min dX3_reach_18 lkm_X3_84 tw_mmin1 tw_m2 tw_mmin3 (by decide) (Nat.le_of_ble_eq_true rfl) ?_
  refine c_I (inv_SN (mi := mi_X3_reach) (rest := [.int 10, .int x3]) (X11_cell_ok G aX_7p (if x2 < x1 then x2 else x1) M) rfl (by decide) dX3_reach_21 lkm_X3_94 cal_X11_cell rfl (Nat.le_of_ble_eq_true rfl) rfl) ?_
  refine r_isub dX3_reach_24 ?_
  refine r_imul dX3_reach_25 ?_
  refine r_bipush (x := 10) dX3_reach_26 rfl ?_
  refine r_idiv dX3_reach_28 (by decide) ?_
  exact r_iret (ty := .int) dX3_reach_29 rfl rfl rfl
set_option maxRecDepth 100000 in
set_option maxHeartbeats 4000000 in
theorem X3_reach_ok_23 (G : Gh) (x1 : Int32) (x2 : Int32) (x3 : Int32) (M : Mem) : Mt G mi_X3_reach [.ref (G.2.2.2 (23)), .int x1, .int x2, .int x3] M ((dI M) (X3_reach 23 x1 x2 x3 M)) := by
  refine Mt_of (lv := [some (.ref (G.2.2.2 (23))), some (.int x1), some (.int x2), some (.int x3)]) (by decide) rfl (Nat.le_of_ble_eq_true rfl) rfl ?_
  unfold X3_reach
  refine r_iload_n dX3_reach_0 rfl ?_
  refine r_iload_n dX3_reach_1 rfl ?_
  refine r_icmp_ne (tgt := 9) dX3_reach_2 rfl (fun h1 => ?_) (fun h1 => ?_)
  · refine r_iload_n dX3_reach_5 rfl ?_
    refine r_goto (tgt := 29) dX3_reach_6 rfl ?_
    exact r_iret (ty := .int) dX3_reach_29 rfl rfl rfl
  refine r_iload_n dX3_reach_9 rfl ?_
  refine r_bipush (x := 10) dX3_reach_10 rfl ?_
  refine r_aload_n dX3_reach_12 rfl ?_
  refine r_getf (v := .ref (G.2.2.2 (23 + 3))) dX3_reach_13 fX_23_8 kX3 (by decide) lkf_X3_18 rfl ?_
  refine r_iload_n dX3_reach_16 rfl ?_
  refine r_iload_n dX3_reach_17 rfl ?_
  refine r_min dX3_reach_18 lkm_X3_84 tw_mmin1 tw_m2 tw_mmin3 (by decide) (Nat.le_of_ble_eq_true rfl) ?_
  refine c_I (inv_SN (mi := mi_X3_reach) (rest := [.int 10, .int x3]) (X11_cell_ok G aX_26p (if x2 < x1 then x2 else x1) M) rfl (by decide) dX3_reach_21 lkm_X3_94 cal_X11_cell rfl (Nat.le_of_ble_eq_true rfl) rfl) ?_
  refine r_isub dX3_reach_24 ?_
  refine r_imul dX3_reach_25 ?_
  refine r_bipush (x := 10) dX3_reach_26 rfl ?_
  refine r_idiv dX3_reach_28 (by decide) ?_
  exact r_iret (ty := .int) dX3_reach_29 rfl rfl rfl

theorem dX9_weekNow_0 : decode cX9_weekNow 0 = .ok (.aload_n 0, 1) := by decide +kernel
theorem dX9_weekNow_1 : decode cX9_weekNow 1 = .ok (.getfield 11, 3) := by decide +kernel
theorem dX9_weekNow_4 : decode cX9_weekNow 4 = .ok (.bipush 40, 2) := by decide +kernel
theorem dX9_weekNow_6 : decode cX9_weekNow 6 = .ok (.invokestatic 36, 3) := by decide +kernel
theorem dX9_weekNow_9 : decode cX9_weekNow 9 = .ok (.ireturn, 1) := by decide +kernel
abbrev mi_X9_weekNow : MI := (zTX, RX9, yX9_weekNow, cX9_weekNow, 1, (some .int), 3)
theorem cal_X9_weekNow : zCalV mi_X9_weekNow 0 := ⟨⟨zTB_i4 93 (by decide +kernel), zTB_i4 91 (by decide +kernel), zTB_i4 92 (by decide +kernel), zTB_i1 8 (by decide +kernel)⟩, ⟨by decide, by decide, by decide +kernel⟩, by decide⟩
noncomputable def X9_weekNow (o0 : Nat) (M : Mem) : Int32 :=
  (X11_cell (o0 + 1) 40 M)
set_option maxRecDepth 100000 in
set_option maxHeartbeats 4000000 in
theorem X9_weekNow_ok_35 (G : Gh) (M : Mem) : Mt G mi_X9_weekNow [.ref (G.2.2.2 (35))] M ((dI M) (X9_weekNow 35 M)) := by
  refine Mt_of (lv := [some (.ref (G.2.2.2 (35)))]) (by decide) rfl (Nat.le_of_ble_eq_true rfl) rfl ?_
  unfold X9_weekNow
  refine r_aload_n dX9_weekNow_0 rfl ?_
  refine r_getf (v := .ref (G.2.2.2 (35 + 1))) dX9_weekNow_1 fX_35_1 kX9 (by decide) lkf_X9_11 rfl ?_
  refine r_bipush (x := 40) dX9_weekNow_4 rfl ?_
  refine c_I (inv_SN (mi := mi_X9_weekNow) (rest := []) (X11_cell_ok G aX_36p 40 M) rfl (by decide) dX9_weekNow_6 lkm_X9_36 cal_X11_cell rfl (Nat.le_of_ble_eq_true rfl) rfl) ?_
  exact r_iret (ty := .int) dX9_weekNow_9 rfl rfl rfl
set_option maxRecDepth 100000 in
set_option maxHeartbeats 4000000 in
theorem X9_weekNow_ok_42 (G : Gh) (M : Mem) : Mt G mi_X9_weekNow [.ref (G.2.2.2 (42))] M ((dI M) (X9_weekNow 42 M)) := by
  refine Mt_of (lv := [some (.ref (G.2.2.2 (42)))]) (by decide) rfl (Nat.le_of_ble_eq_true rfl) rfl ?_
  unfold X9_weekNow
  refine r_aload_n dX9_weekNow_0 rfl ?_
  refine r_getf (v := .ref (G.2.2.2 (42 + 1))) dX9_weekNow_1 fX_42_1 kX9 (by decide) lkf_X9_11 rfl ?_
  refine r_bipush (x := 40) dX9_weekNow_4 rfl ?_
  refine c_I (inv_SN (mi := mi_X9_weekNow) (rest := []) (X11_cell_ok G aX_43p 40 M) rfl (by decide) dX9_weekNow_6 lkm_X9_36 cal_X11_cell rfl (Nat.le_of_ble_eq_true rfl) rfl) ?_
  exact r_iret (ty := .int) dX9_weekNow_9 rfl rfl rfl

theorem dX1_joined_0 : decode cX1_joined 0 = .ok (.iload_n 0, 1) := by decide +kernel
theorem dX1_joined_1 : decode cX1_joined 1 = .ok (.lookupswitch 188 #[(37, 115), (38, 160), (42, 99), (43, 91), (45, 95), (47, 103), (60, 127), (61, 149), (62, 138), (124, 174)], 91) := by decide +kernel
theorem dX1_joined_92 : decode cX1_joined 92 = .ok (.iload_n 1, 1) := by decide +kernel
theorem dX1_joined_93 : decode cX1_joined 93 = .ok (.iload_n 2, 1) := by decide +kernel
theorem dX1_joined_94 : decode cX1_joined 94 = .ok (.iadd, 1) := by decide +kernel
theorem dX1_joined_95 : decode cX1_joined 95 = .ok (.ireturn, 1) := by decide +kernel
theorem dX1_joined_96 : decode cX1_joined 96 = .ok (.iload_n 1, 1) := by decide +kernel
theorem dX1_joined_97 : decode cX1_joined 97 = .ok (.iload_n 2, 1) := by decide +kernel
theorem dX1_joined_98 : decode cX1_joined 98 = .ok (.isub, 1) := by decide +kernel
theorem dX1_joined_99 : decode cX1_joined 99 = .ok (.ireturn, 1) := by decide +kernel
theorem dX1_joined_100 : decode cX1_joined 100 = .ok (.iload_n 1, 1) := by decide +kernel
theorem dX1_joined_101 : decode cX1_joined 101 = .ok (.iload_n 2, 1) := by decide +kernel
theorem dX1_joined_102 : decode cX1_joined 102 = .ok (.imul, 1) := by decide +kernel
theorem dX1_joined_103 : decode cX1_joined 103 = .ok (.ireturn, 1) := by decide +kernel
theorem dX1_joined_104 : decode cX1_joined 104 = .ok (.iload_n 2, 1) := by decide +kernel
theorem dX1_joined_105 : decode cX1_joined 105 = .ok (.ifCond .ne 7, 3) := by decide +kernel
theorem dX1_joined_108 : decode cX1_joined 108 = .ok (.iconst 0, 1) := by decide +kernel
theorem dX1_joined_109 : decode cX1_joined 109 = .ok (.goto 6, 3) := by decide +kernel
theorem dX1_joined_112 : decode cX1_joined 112 = .ok (.iload_n 1, 1) := by decide +kernel
theorem dX1_joined_113 : decode cX1_joined 113 = .ok (.iload_n 2, 1) := by decide +kernel
theorem dX1_joined_114 : decode cX1_joined 114 = .ok (.idiv, 1) := by decide +kernel
theorem dX1_joined_115 : decode cX1_joined 115 = .ok (.ireturn, 1) := by decide +kernel
theorem dX1_joined_116 : decode cX1_joined 116 = .ok (.iload_n 2, 1) := by decide +kernel
theorem dX1_joined_117 : decode cX1_joined 117 = .ok (.ifCond .ne 7, 3) := by decide +kernel
theorem dX1_joined_120 : decode cX1_joined 120 = .ok (.iconst 0, 1) := by decide +kernel
theorem dX1_joined_121 : decode cX1_joined 121 = .ok (.goto 6, 3) := by decide +kernel
theorem dX1_joined_124 : decode cX1_joined 124 = .ok (.iload_n 1, 1) := by decide +kernel
theorem dX1_joined_125 : decode cX1_joined 125 = .ok (.iload_n 2, 1) := by decide +kernel
theorem dX1_joined_126 : decode cX1_joined 126 = .ok (.irem, 1) := by decide +kernel
theorem dX1_joined_127 : decode cX1_joined 127 = .ok (.ireturn, 1) := by decide +kernel
theorem dX1_joined_128 : decode cX1_joined 128 = .ok (.iload_n 1, 1) := by decide +kernel
theorem dX1_joined_129 : decode cX1_joined 129 = .ok (.iload_n 2, 1) := by decide +kernel
theorem dX1_joined_130 : decode cX1_joined 130 = .ok (.if_icmp .ge 7, 3) := by decide +kernel
theorem dX1_joined_133 : decode cX1_joined 133 = .ok (.iconst 1, 1) := by decide +kernel
theorem dX1_joined_134 : decode cX1_joined 134 = .ok (.goto 4, 3) := by decide +kernel
theorem dX1_joined_137 : decode cX1_joined 137 = .ok (.iconst 0, 1) := by decide +kernel
theorem dX1_joined_138 : decode cX1_joined 138 = .ok (.ireturn, 1) := by decide +kernel
theorem dX1_joined_139 : decode cX1_joined 139 = .ok (.iload_n 1, 1) := by decide +kernel
theorem dX1_joined_140 : decode cX1_joined 140 = .ok (.iload_n 2, 1) := by decide +kernel
theorem dX1_joined_141 : decode cX1_joined 141 = .ok (.if_icmp .le 7, 3) := by decide +kernel
theorem dX1_joined_144 : decode cX1_joined 144 = .ok (.iconst 1, 1) := by decide +kernel
theorem dX1_joined_145 : decode cX1_joined 145 = .ok (.goto 4, 3) := by decide +kernel
theorem dX1_joined_148 : decode cX1_joined 148 = .ok (.iconst 0, 1) := by decide +kernel
theorem dX1_joined_149 : decode cX1_joined 149 = .ok (.ireturn, 1) := by decide +kernel
theorem dX1_joined_150 : decode cX1_joined 150 = .ok (.iload_n 1, 1) := by decide +kernel
theorem dX1_joined_151 : decode cX1_joined 151 = .ok (.iload_n 2, 1) := by decide +kernel
theorem dX1_joined_152 : decode cX1_joined 152 = .ok (.if_icmp .ne 7, 3) := by decide +kernel
theorem dX1_joined_155 : decode cX1_joined 155 = .ok (.iconst 1, 1) := by decide +kernel
theorem dX1_joined_156 : decode cX1_joined 156 = .ok (.goto 4, 3) := by decide +kernel
theorem dX1_joined_159 : decode cX1_joined 159 = .ok (.iconst 0, 1) := by decide +kernel
theorem dX1_joined_160 : decode cX1_joined 160 = .ok (.ireturn, 1) := by decide +kernel
theorem dX1_joined_161 : decode cX1_joined 161 = .ok (.iload_n 1, 1) := by decide +kernel
theorem dX1_joined_162 : decode cX1_joined 162 = .ok (.ifCond .eq 11, 3) := by decide +kernel
theorem dX1_joined_165 : decode cX1_joined 165 = .ok (.iload_n 2, 1) := by decide +kernel
theorem dX1_joined_166 : decode cX1_joined 166 = .ok (.ifCond .eq 7, 3) := by decide +kernel
theorem dX1_joined_169 : decode cX1_joined 169 = .ok (.iconst 1, 1) := by decide +kernel
theorem dX1_joined_170 : decode cX1_joined 170 = .ok (.goto 4, 3) := by decide +kernel
theorem dX1_joined_173 : decode cX1_joined 173 = .ok (.iconst 0, 1) := by decide +kernel
theorem dX1_joined_174 : decode cX1_joined 174 = .ok (.ireturn, 1) := by decide +kernel
theorem dX1_joined_175 : decode cX1_joined 175 = .ok (.iload_n 1, 1) := by decide +kernel
theorem dX1_joined_176 : decode cX1_joined 176 = .ok (.ifCond .ne 7, 3) := by decide +kernel
theorem dX1_joined_179 : decode cX1_joined 179 = .ok (.iload_n 2, 1) := by decide +kernel
theorem dX1_joined_180 : decode cX1_joined 180 = .ok (.ifCond .eq 7, 3) := by decide +kernel
theorem dX1_joined_183 : decode cX1_joined 183 = .ok (.iconst 1, 1) := by decide +kernel
theorem dX1_joined_184 : decode cX1_joined 184 = .ok (.goto 4, 3) := by decide +kernel
theorem dX1_joined_187 : decode cX1_joined 187 = .ok (.iconst 0, 1) := by decide +kernel
theorem dX1_joined_188 : decode cX1_joined 188 = .ok (.ireturn, 1) := by decide +kernel
theorem dX1_joined_189 : decode cX1_joined 189 = .ok (.iconst 0, 1) := by decide +kernel
theorem dX1_joined_190 : decode cX1_joined 190 = .ok (.ireturn, 1) := by decide +kernel
abbrev mi_X1_joined : MI := (zTX, RX1, yX1_joined, cX1_joined, 3, (some .int), 2)
theorem cal_X1_joined : zCalS mi_X1_joined 3 := ⟨⟨zTB_i4 102 (by decide +kernel), zTB_i4 101 (by decide +kernel), zTB_i1 5 (by decide +kernel)⟩, ⟨by decide, by decide, by decide +kernel⟩, by decide⟩
noncomputable def X1_joined (x0 : Int32) (x1 : Int32) (x2 : Int32) : Int32 :=
  if x0 = 37 then
    if x2 = 0 then
      0
    else
    x1 % x2
  else
  if x0 = 38 then
    if x1 = 0 then
      0
    else
    if x2 = 0 then
      0
    else
    1
  else
  if x0 = 42 then
    x1 * x2
  else
  if x0 = 43 then
    x1 + x2
  else
  if x0 = 45 then
    x1 - x2
  else
  if x0 = 47 then
    if x2 = 0 then
      0
    else
    x1 / x2
  else
  if x0 = 60 then
    if x2 ≤ x1 then
      0
    else
    1
  else
  if x0 = 61 then
    if x1 = x2 then
      1
    else
    0
  else
  if x0 = 62 then
    if x1 ≤ x2 then
      0
    else
    1
  else
  if x0 = 124 then
    if x1 = 0 then
      if x2 = 0 then
        0
      else
      1
    else
    1
  else
  0
set_option maxRecDepth 100000 in
set_option maxHeartbeats 4000000 in
theorem X1_joined_ok (G : Gh) (x0 : Int32) (x1 : Int32) (x2 : Int32) (M : Mem) : Mt G mi_X1_joined [.int x0, .int x1, .int x2] M ((dI M) (X1_joined x0 x1 x2)) := by
  refine Mt_of (lv := [some (.int x0), some (.int x1), some (.int x2)]) (by decide) rfl (Nat.le_of_ble_eq_true rfl) rfl ?_
  unfold X1_joined
  refine r_iload_n dX1_joined_0 rfl ?_
  refine r_ite (fun h1 => ?_) (fun h1 => ?_)
  · refine r_lswIn (c := 37) (tgt := 116) dX1_joined_1 h1 rfl rfl rfl ?_
    refine r_iload_n dX1_joined_116 rfl ?_
    refine r_if_ne (tgt := 124) dX1_joined_117 rfl (fun h2 => ?_) (fun h2 => ?_)
    · refine r_iconst (x := 0) dX1_joined_120 rfl ?_
      refine r_goto (tgt := 127) dX1_joined_121 rfl ?_
      exact r_iret (ty := .int) dX1_joined_127 rfl rfl rfl
    refine r_iload_n dX1_joined_124 rfl ?_
    refine r_iload_n dX1_joined_125 rfl ?_
    refine r_irem dX1_joined_126 h2 ?_
    exact r_iret (ty := .int) dX1_joined_127 rfl rfl rfl
  refine r_ite (fun h3 => ?_) (fun h3 => ?_)
  · refine r_lswIn (c := 38) (tgt := 161) dX1_joined_1 h3 rfl rfl rfl ?_
    refine r_iload_n dX1_joined_161 rfl ?_
    refine r_if_eq (tgt := 173) dX1_joined_162 rfl (fun h4 => ?_) (fun h4 => ?_)
    · refine r_iconst (x := 0) dX1_joined_173 rfl ?_
      exact r_iret (ty := .int) dX1_joined_174 rfl rfl rfl
    refine r_iload_n dX1_joined_165 rfl ?_
    refine r_if_eq (tgt := 173) dX1_joined_166 rfl (fun h5 => ?_) (fun h5 => ?_)
    · refine r_iconst (x := 0) dX1_joined_173 rfl ?_
      exact r_iret (ty := .int) dX1_joined_174 rfl rfl rfl
    refine r_iconst (x := 1) dX1_joined_169 rfl ?_
    refine r_goto (tgt := 174) dX1_joined_170 rfl ?_
    exact r_iret (ty := .int) dX1_joined_174 rfl rfl rfl
  refine r_ite (fun h6 => ?_) (fun h6 => ?_)
  · refine r_lswIn (c := 42) (tgt := 100) dX1_joined_1 h6 rfl rfl rfl ?_
    refine r_iload_n dX1_joined_100 rfl ?_
    refine r_iload_n dX1_joined_101 rfl ?_
    refine r_imul dX1_joined_102 ?_
    exact r_iret (ty := .int) dX1_joined_103 rfl rfl rfl
  refine r_ite (fun h7 => ?_) (fun h7 => ?_)
  · refine r_lswIn (c := 43) (tgt := 92) dX1_joined_1 h7 rfl rfl rfl ?_
    refine r_iload_n dX1_joined_92 rfl ?_
    refine r_iload_n dX1_joined_93 rfl ?_
    refine r_iadd dX1_joined_94 ?_
    exact r_iret (ty := .int) dX1_joined_95 rfl rfl rfl
  refine r_ite (fun h8 => ?_) (fun h8 => ?_)
  · refine r_lswIn (c := 45) (tgt := 96) dX1_joined_1 h8 rfl rfl rfl ?_
    refine r_iload_n dX1_joined_96 rfl ?_
    refine r_iload_n dX1_joined_97 rfl ?_
    refine r_isub dX1_joined_98 ?_
    exact r_iret (ty := .int) dX1_joined_99 rfl rfl rfl
  refine r_ite (fun h9 => ?_) (fun h9 => ?_)
  · refine r_lswIn (c := 47) (tgt := 104) dX1_joined_1 h9 rfl rfl rfl ?_
    refine r_iload_n dX1_joined_104 rfl ?_
    refine r_if_ne (tgt := 112) dX1_joined_105 rfl (fun h10 => ?_) (fun h10 => ?_)
    · refine r_iconst (x := 0) dX1_joined_108 rfl ?_
      refine r_goto (tgt := 115) dX1_joined_109 rfl ?_
      exact r_iret (ty := .int) dX1_joined_115 rfl rfl rfl
    refine r_iload_n dX1_joined_112 rfl ?_
    refine r_iload_n dX1_joined_113 rfl ?_
    refine r_idiv dX1_joined_114 h10 ?_
    exact r_iret (ty := .int) dX1_joined_115 rfl rfl rfl
  refine r_ite (fun h11 => ?_) (fun h11 => ?_)
  · refine r_lswIn (c := 60) (tgt := 128) dX1_joined_1 h11 rfl rfl rfl ?_
    refine r_iload_n dX1_joined_128 rfl ?_
    refine r_iload_n dX1_joined_129 rfl ?_
    refine r_icmp_ge (tgt := 137) dX1_joined_130 rfl (fun h12 => ?_) (fun h12 => ?_)
    · refine r_iconst (x := 0) dX1_joined_137 rfl ?_
      exact r_iret (ty := .int) dX1_joined_138 rfl rfl rfl
    refine r_iconst (x := 1) dX1_joined_133 rfl ?_
    refine r_goto (tgt := 138) dX1_joined_134 rfl ?_
    exact r_iret (ty := .int) dX1_joined_138 rfl rfl rfl
  refine r_ite (fun h13 => ?_) (fun h13 => ?_)
  · refine r_lswIn (c := 61) (tgt := 150) dX1_joined_1 h13 rfl rfl rfl ?_
    refine r_iload_n dX1_joined_150 rfl ?_
    refine r_iload_n dX1_joined_151 rfl ?_
    refine r_icmp_ne (tgt := 159) dX1_joined_152 rfl (fun h14 => ?_) (fun h14 => ?_)
    · refine r_iconst (x := 1) dX1_joined_155 rfl ?_
      refine r_goto (tgt := 160) dX1_joined_156 rfl ?_
      exact r_iret (ty := .int) dX1_joined_160 rfl rfl rfl
    refine r_iconst (x := 0) dX1_joined_159 rfl ?_
    exact r_iret (ty := .int) dX1_joined_160 rfl rfl rfl
  refine r_ite (fun h15 => ?_) (fun h15 => ?_)
  · refine r_lswIn (c := 62) (tgt := 139) dX1_joined_1 h15 rfl rfl rfl ?_
    refine r_iload_n dX1_joined_139 rfl ?_
    refine r_iload_n dX1_joined_140 rfl ?_
    refine r_icmp_le (tgt := 148) dX1_joined_141 rfl (fun h16 => ?_) (fun h16 => ?_)
    · refine r_iconst (x := 0) dX1_joined_148 rfl ?_
      exact r_iret (ty := .int) dX1_joined_149 rfl rfl rfl
    refine r_iconst (x := 1) dX1_joined_144 rfl ?_
    refine r_goto (tgt := 149) dX1_joined_145 rfl ?_
    exact r_iret (ty := .int) dX1_joined_149 rfl rfl rfl
  refine r_ite (fun h17 => ?_) (fun h17 => ?_)
  · refine r_lswIn (c := 124) (tgt := 175) dX1_joined_1 h17 rfl rfl rfl ?_
    refine r_iload_n dX1_joined_175 rfl ?_
    refine r_if_ne (tgt := 183) dX1_joined_176 rfl (fun h18 => ?_) (fun h18 => ?_)
    · refine r_iload_n dX1_joined_179 rfl ?_
      refine r_if_eq (tgt := 187) dX1_joined_180 rfl (fun h19 => ?_) (fun h19 => ?_)
      · refine r_iconst (x := 0) dX1_joined_187 rfl ?_
        exact r_iret (ty := .int) dX1_joined_188 rfl rfl rfl
      refine r_iconst (x := 1) dX1_joined_183 rfl ?_
      refine r_goto (tgt := 188) dX1_joined_184 rfl ?_
      exact r_iret (ty := .int) dX1_joined_188 rfl rfl rfl
    refine r_iconst (x := 1) dX1_joined_183 rfl ?_
    refine r_goto (tgt := 188) dX1_joined_184 rfl ?_
    exact r_iret (ty := .int) dX1_joined_188 rfl rfl rfl
  refine r_lswD (cs := [37, 38, 42, 43, 45, 47, 60, 61, 62, 124]) (tgt := 189) dX1_joined_1 rfl (by decide) (fun c hc => by simp only [List.mem_cons, List.not_mem_nil, or_false] at hc; rcases hc with rfl | rfl | rfl | rfl | rfl | rfl | rfl | rfl | rfl | rfl <;> assumption) rfl ?_
  refine r_iconst (x := 0) dX1_joined_189 rfl ?_
  exact r_iret (ty := .int) dX1_joined_190 rfl rfl rfl

theorem dX1_worth_0 : decode cX1_worth 0 = .ok (.aload_n 0, 1) := by decide +kernel
theorem dX1_worth_1 : decode cX1_worth 1 = .ok (.getfield 16, 3) := by decide +kernel
theorem dX1_worth_4 : decode cX1_worth 4 = .ok (.ifCond .ne 21, 3) := by decide +kernel
theorem dX1_worth_7 : decode cX1_worth 7 = .ok (.aload_n 1, 1) := by decide +kernel
theorem dX1_worth_8 : decode cX1_worth 8 = .ok (.iconst 0, 1) := by decide +kernel
theorem dX1_worth_9 : decode cX1_worth 9 = .ok (.invokestatic 29, 3) := by decide +kernel
theorem dX1_worth_12 : decode cX1_worth 12 = .ok (.aload_n 1, 1) := by decide +kernel
theorem dX1_worth_13 : decode cX1_worth 13 = .ok (.iconst 1, 1) := by decide +kernel
theorem dX1_worth_14 : decode cX1_worth 14 = .ok (.invokestatic 29, 3) := by decide +kernel
theorem dX1_worth_17 : decode cX1_worth 17 = .ok (.iadd, 1) := by decide +kernel
theorem dX1_worth_18 : decode cX1_worth 18 = .ok (.aload_n 1, 1) := by decide +kernel
theorem dX1_worth_19 : decode cX1_worth 19 = .ok (.iconst 2, 1) := by decide +kernel
theorem dX1_worth_20 : decode cX1_worth 20 = .ok (.invokestatic 29, 3) := by decide +kernel
theorem dX1_worth_23 : decode cX1_worth 23 = .ok (.iadd, 1) := by decide +kernel
theorem dX1_worth_24 : decode cX1_worth 24 = .ok (.ireturn, 1) := by decide +kernel
theorem dX1_worth_25 : decode cX1_worth 25 = .ok (.iconst 0, 1) := by decide +kernel
theorem dX1_worth_26 : decode cX1_worth 26 = .ok (.istore_n 2, 1) := by decide +kernel
theorem dX1_worth_27 : decode cX1_worth 27 = .ok (.iconst 0, 1) := by decide +kernel
theorem dX1_worth_28 : decode cX1_worth 28 = .ok (.istore_n 3, 1) := by decide +kernel
theorem dX1_worth_29 : decode cX1_worth 29 = .ok (.iload_n 3, 1) := by decide +kernel
theorem dX1_worth_30 : decode cX1_worth 30 = .ok (.aload_n 0, 1) := by decide +kernel
theorem dX1_worth_31 : decode cX1_worth 31 = .ok (.getfield 16, 3) := by decide +kernel
theorem dX1_worth_34 : decode cX1_worth 34 = .ok (.if_icmp .ge 150, 3) := by decide +kernel
theorem dX1_worth_37 : decode cX1_worth 37 = .ok (.iload_n 3, 1) := by decide +kernel
theorem dX1_worth_38 : decode cX1_worth 38 = .ok (.aload_n 0, 1) := by decide +kernel
theorem dX1_worth_39 : decode cX1_worth 39 = .ok (.getfield 9, 3) := by decide +kernel
theorem dX1_worth_42 : decode cX1_worth 42 = .ok (.arraylength, 1) := by decide +kernel
theorem dX1_worth_43 : decode cX1_worth 43 = .ok (.if_icmp .ge 141, 3) := by decide +kernel
theorem dX1_worth_46 : decode cX1_worth 46 = .ok (.aload_n 0, 1) := by decide +kernel
theorem dX1_worth_47 : decode cX1_worth 47 = .ok (.getfield 9, 3) := by decide +kernel
theorem dX1_worth_50 : decode cX1_worth 50 = .ok (.iload_n 3, 1) := by decide +kernel
theorem dX1_worth_51 : decode cX1_worth 51 = .ok (.iaload, 1) := by decide +kernel
theorem dX1_worth_52 : decode cX1_worth 52 = .ok (.istore 4, 2) := by decide +kernel
theorem dX1_worth_54 : decode cX1_worth 54 = .ok (.iload 4, 2) := by decide +kernel
theorem dX1_worth_56 : decode cX1_worth 56 = .ok (.sipush 20033, 3) := by decide +kernel
theorem dX1_worth_59 : decode cX1_worth 59 = .ok (.if_icmp .ne 34, 3) := by decide +kernel
theorem dX1_worth_62 : decode cX1_worth 62 = .ok (.aload_n 0, 1) := by decide +kernel
theorem dX1_worth_63 : decode cX1_worth 63 = .ok (.getfield 13, 3) := by decide +kernel
theorem dX1_worth_66 : decode cX1_worth 66 = .ok (.iload_n 2, 1) := by decide +kernel
theorem dX1_worth_67 : decode cX1_worth 67 = .ok (.iconst 1, 1) := by decide +kernel
theorem dX1_worth_68 : decode cX1_worth 68 = .ok (.isub, 1) := by decide +kernel
theorem dX1_worth_69 : decode cX1_worth 69 = .ok (.aload_n 0, 1) := by decide +kernel
theorem dX1_worth_70 : decode cX1_worth 70 = .ok (.getfield 13, 3) := by decide +kernel
theorem dX1_worth_73 : decode cX1_worth 73 = .ok (.iload_n 2, 1) := by decide +kernel
theorem dX1_worth_74 : decode cX1_worth 74 = .ok (.iconst 1, 1) := by decide +kernel
theorem dX1_worth_75 : decode cX1_worth 75 = .ok (.isub, 1) := by decide +kernel
theorem dX1_worth_76 : decode cX1_worth 76 = .ok (.invokestatic 29, 3) := by decide +kernel
theorem dX1_worth_79 : decode cX1_worth 79 = .ok (.ifCond .ne 7, 3) := by decide +kernel
theorem dX1_worth_82 : decode cX1_worth 82 = .ok (.iconst 1, 1) := by decide +kernel
theorem dX1_worth_83 : decode cX1_worth 83 = .ok (.goto 4, 3) := by decide +kernel
theorem dX1_worth_86 : decode cX1_worth 86 = .ok (.iconst 0, 1) := by decide +kernel
theorem dX1_worth_87 : decode cX1_worth 87 = .ok (.invokestatic 33, 3) := by decide +kernel
theorem dX1_worth_90 : decode cX1_worth 90 = .ok (.goto 88, 3) := by decide +kernel
theorem dX1_worth_93 : decode cX1_worth 93 = .ok (.iload 4, 2) := by decide +kernel
theorem dX1_worth_95 : decode cX1_worth 95 = .ok (.sipush 20000, 3) := by decide +kernel
theorem dX1_worth_98 : decode cX1_worth 98 = .ok (.if_icmp .lt 46, 3) := by decide +kernel
theorem dX1_worth_101 : decode cX1_worth 101 = .ok (.iinc 2 (-1), 3) := by decide +kernel
theorem dX1_worth_104 : decode cX1_worth 104 = .ok (.aload_n 0, 1) := by decide +kernel
theorem dX1_worth_105 : decode cX1_worth 105 = .ok (.getfield 13, 3) := by decide +kernel
theorem dX1_worth_108 : decode cX1_worth 108 = .ok (.iload_n 2, 1) := by decide +kernel
theorem dX1_worth_109 : decode cX1_worth 109 = .ok (.iconst 1, 1) := by decide +kernel
theorem dX1_worth_110 : decode cX1_worth 110 = .ok (.isub, 1) := by decide +kernel
theorem dX1_worth_111 : decode cX1_worth 111 = .ok (.iload 4, 2) := by decide +kernel
theorem dX1_worth_113 : decode cX1_worth 113 = .ok (.sipush 20000, 3) := by decide +kernel
theorem dX1_worth_116 : decode cX1_worth 116 = .ok (.isub, 1) := by decide +kernel
theorem dX1_worth_117 : decode cX1_worth 117 = .ok (.aload_n 0, 1) := by decide +kernel
theorem dX1_worth_118 : decode cX1_worth 118 = .ok (.getfield 13, 3) := by decide +kernel
theorem dX1_worth_121 : decode cX1_worth 121 = .ok (.iload_n 2, 1) := by decide +kernel
theorem dX1_worth_122 : decode cX1_worth 122 = .ok (.iconst 1, 1) := by decide +kernel
theorem dX1_worth_123 : decode cX1_worth 123 = .ok (.isub, 1) := by decide +kernel
theorem dX1_worth_124 : decode cX1_worth 124 = .ok (.invokestatic 29, 3) := by decide +kernel
theorem dX1_worth_127 : decode cX1_worth 127 = .ok (.aload_n 0, 1) := by decide +kernel
theorem dX1_worth_128 : decode cX1_worth 128 = .ok (.getfield 13, 3) := by decide +kernel
theorem dX1_worth_131 : decode cX1_worth 131 = .ok (.iload_n 2, 1) := by decide +kernel
theorem dX1_worth_132 : decode cX1_worth 132 = .ok (.invokestatic 29, 3) := by decide +kernel
theorem dX1_worth_135 : decode cX1_worth 135 = .ok (.invokestatic 37, 3) := by decide +kernel
theorem dX1_worth_138 : decode cX1_worth 138 = .ok (.invokestatic 33, 3) := by decide +kernel
theorem dX1_worth_141 : decode cX1_worth 141 = .ok (.goto 37, 3) := by decide +kernel
theorem dX1_worth_144 : decode cX1_worth 144 = .ok (.aload_n 0, 1) := by decide +kernel
theorem dX1_worth_145 : decode cX1_worth 145 = .ok (.getfield 13, 3) := by decide +kernel
theorem dX1_worth_148 : decode cX1_worth 148 = .ok (.iload_n 2, 1) := by decide +kernel
theorem dX1_worth_149 : decode cX1_worth 149 = .ok (.iload 4, 2) := by decide +kernel
theorem dX1_worth_151 : decode cX1_worth 151 = .ok (.sipush 10000, 3) := by decide +kernel
theorem dX1_worth_154 : decode cX1_worth 154 = .ok (.if_icmp .lt 16, 3) := by decide +kernel
theorem dX1_worth_157 : decode cX1_worth 157 = .ok (.aload_n 1, 1) := by decide +kernel
theorem dX1_worth_158 : decode cX1_worth 158 = .ok (.iload 4, 2) := by decide +kernel
theorem dX1_worth_160 : decode cX1_worth 160 = .ok (.sipush 10000, 3) := by decide +kernel
theorem dX1_worth_163 : decode cX1_worth 163 = .ok (.isub, 1) := by decide +kernel
theorem dX1_worth_164 : decode cX1_worth 164 = .ok (.invokestatic 29, 3) := by decide +kernel
theorem dX1_worth_167 : decode cX1_worth 167 = .ok (.goto 5, 3) := by decide +kernel
theorem dX1_worth_170 : decode cX1_worth 170 = .ok (.iload 4, 2) := by decide +kernel
theorem dX1_worth_172 : decode cX1_worth 172 = .ok (.invokestatic 33, 3) := by decide +kernel
theorem dX1_worth_175 : decode cX1_worth 175 = .ok (.iinc 2 1, 3) := by decide +kernel
theorem dX1_worth_178 : decode cX1_worth 178 = .ok (.iinc 3 1, 3) := by decide +kernel
theorem dX1_worth_181 : decode cX1_worth 181 = .ok (.goto (-152), 3) := by decide +kernel
theorem dX1_worth_184 : decode cX1_worth 184 = .ok (.aload_n 0, 1) := by decide +kernel
theorem dX1_worth_185 : decode cX1_worth 185 = .ok (.getfield 13, 3) := by decide +kernel
theorem dX1_worth_188 : decode cX1_worth 188 = .ok (.iconst 0, 1) := by decide +kernel
theorem dX1_worth_189 : decode cX1_worth 189 = .ok (.invokestatic 29, 3) := by decide +kernel
theorem dX1_worth_192 : decode cX1_worth 192 = .ok (.ireturn, 1) := by decide +kernel
abbrev mi_X1_worth : MI := (zTX, RX1, yX1_worth, cX1_worth, 5, (some .int), 3)
theorem cal_X1_worth : zCalV mi_X1_worth 1 := ⟨⟨zTB_i4 97 (by decide +kernel), zTB_i4 95 (by decide +kernel), zTB_i4 96 (by decide +kernel), zTB_i1 5 (by decide +kernel)⟩, ⟨by decide, by decide, by decide +kernel⟩, by decide⟩
noncomputable def X1_worth_L1 (o0 : Nat) (a1 : Nat) : Nat → Int32 → Int32 → Mem → Option (Mem)
  | 0, _, _, _ => none
  | n + 1, c2, c3, M =>
    if (M.1 o0 2) ≤ c3 then
      some M
    else
    if (300) ≤ c3 then
      some M
    else
    gd_ (inb c3 (300) = true) (
    lt_ (α := Int32) (M.1 (o0 + 1) c3.toNatClampNeg) fun y5 =>
    l2_ (α := Int32) (β := Mem) (
      if y5 = 20033 then
        l1_ (α := Int32) (
          if (X11_cell (o0 + 2) (c2 - 1) M) = 0 then
            1
          else
          0) fun y13 =>
        lt_ (X11_put (o0 + 2) (c2 - 1) y13 M) fun M14 =>
        (c2, M14)
      else
      if y5 < 20000 then
        l1_ (α := Int32) (
          if y5 < 10000 then
            y5
          else
          (X11_cell a1 (y5 - 10000) M)) fun y9 =>
        lt_ (X11_put (o0 + 2) c2 y9 M) fun M10 =>
        (c2 + 1, M10)
      else
      lt_ (X11_put (o0 + 2) ((c2 + (-1)) - 1) (X1_joined (y5 - 20000) (X11_cell (o0 + 2) ((c2 + (-1)) - 1) M) (X11_cell (o0 + 2) (c2 + (-1)) M)) M) fun M11 =>
      (c2 + (-1), M11)) fun y15 M16 =>
    X1_worth_L1 o0 a1 n y15 (c3 + 1) M16)
noncomputable def X1_worth (o0 : Nat) (a1 : Nat) (M : Mem) : Option (Int32 × Mem) :=
  if (M.1 o0 2) = 0 then
    some (((X11_cell a1 0 M) + (X11_cell a1 1 M)) + (X11_cell a1 2 M), M)
  else
  b1_ (α := Mem) (X1_worth_L1 o0 a1 zFU 0 0 M) fun M17 =>
  some ((X11_cell (o0 + 2) 0 M17), M17)
set_option maxRecDepth 100000 in
set_option maxHeartbeats 4000000 in
theorem X1_worth_L1_ok_13 (G : Gh) {a1 : Nat} (ha1 : zar zTX a1 = some (0, zlen zTX a1)) {dn : Option (Mem) → Option (Option Value × Mem)} (hs : dn none = none) (hx : ∀ (M17 : Mem), Wr G mi_X1_worth dn 184 [some (.ref (G.2.2.2 (13))), none, none, none, none] [] M17 (some M17)) : ∀ (n : Nat) (c2 : Int32) (c3 : Int32) (M : Mem), Wr G mi_X1_worth dn 29 [some (.ref (G.2.2.2 (13))), some (.ref (G.2.2.2 (a1))), some (.int c2), some (.int c3), none] [] M (X1_worth_L1 13 a1 n c2 c3 M) := by
  intro n
  induction n with
  | zero => intro c2 c3 M; exact r_none (by exact hs)
  | succ n ih =>
    intro c2 c3 M
    rw [X1_worth_L1]
    refine r_iload_n dX1_worth_29 rfl ?_
    refine r_aload_n dX1_worth_30 rfl ?_
    refine r_getf (v := .int (M.1 13 2)) dX1_worth_31 fX_13_2 kX1 (by decide) lkf_X1_16 rfl ?_
    refine r_icmp_ge (tgt := 184) dX1_worth_34 rfl (fun h2 => ?_) (fun h2 => ?_)
    · exact r_lk (hx M) (And.intro rfl True.intro)
    refine r_iload_n dX1_worth_37 rfl ?_
    refine r_aload_n dX1_worth_38 rfl ?_
    refine r_getf (v := .ref (G.2.2.2 (13 + 1))) dX1_worth_39 fX_13_0 kX1 (by decide) lkf_X1_9 rfl ?_
    refine r_alen (v := 300) dX1_worth_42 aX_14 (by decide) rfl ?_
    refine r_icmp_ge (tgt := 184) dX1_worth_43 rfl (fun h3 => ?_) (fun h3 => ?_)
    · exact r_lk (hx M) (And.intro rfl True.intro)
    refine r_aload_n dX1_worth_46 rfl ?_
    refine r_getf (v := .ref (G.2.2.2 (13 + 1))) dX1_worth_47 fX_13_0 kX1 (by decide) lkf_X1_9 rfl ?_
    refine r_iload_n dX1_worth_50 rfl ?_
    refine r_gd (by exact hs) (fun g4 => ?_)
    refine r_iald dX1_worth_51 aX_14 (inb_in g4) rfl ?_
    refine r_letI (fun y5 => ?_)
    refine r_istore (lv' := [some (.ref (G.2.2.2 (13))), some (.ref (G.2.2.2 (a1))), some (.int c2), some (.int c3), some (.int y5)]) dX1_worth_52 (Nat.le_of_ble_eq_true rfl) rfl rfl ?_
    refine r_iload dX1_worth_54 rfl ?_
    refine r_sipush (x := 20033) dX1_worth_56 rfl ?_
    refine r_jL2 (j := 178) (lvj := fun y15 M16 => [some (.ref (G.2.2.2 (13))), some (.ref (G.2.2.2 (a1))), some (.int y15), some (.int c3), none]) (stj := fun y15 M16 => []) (Mj := fun y15 M16 => M16) (fun y15 M16 => ?_) (fun hj178 => ?_)
    · refine r_iinc (y := c3 + 1) (lv' := [some (.ref (G.2.2.2 (13))), some (.ref (G.2.2.2 (a1))), some (.int y15), some (.int (c3 + 1)), none]) dX1_worth_178 rfl rfl (Nat.le_of_ble_eq_true rfl) rfl rfl ?_
      refine r_goto (tgt := 29) dX1_worth_181 rfl ?_
      exact r_lk (ih y15 (c3 + 1) M16) (And.intro rfl (And.intro rfl (And.intro rfl (And.intro rfl True.intro))))
    refine r_icmp_ne (tgt := 93) dX1_worth_59 rfl (fun h6 => ?_) (fun h6 => ?_)
    · refine r_aload_n dX1_worth_62 rfl ?_
      refine r_getf (v := .ref (G.2.2.2 (13 + 2))) dX1_worth_63 fX_13_1 kX1 (by decide) lkf_X1_13 rfl ?_
      refine r_iload_n dX1_worth_66 rfl ?_
      refine r_iconst (x := 1) dX1_worth_67 rfl ?_
      refine r_isub dX1_worth_68 ?_
      refine r_aload_n dX1_worth_69 rfl ?_
      refine r_getf (v := .ref (G.2.2.2 (13 + 2))) dX1_worth_70 fX_13_1 kX1 (by decide) lkf_X1_13 rfl ?_
      refine r_iload_n dX1_worth_73 rfl ?_
      refine r_iconst (x := 1) dX1_worth_74 rfl ?_
      refine r_isub dX1_worth_75 ?_
      refine c_I (inv_SN (mi := mi_X1_worth) (rest := [.int (c2 - 1), .ref (G.2.2.2 (13 + 2))]) (X11_cell_ok G aX_15p (c2 - 1) M) rfl (by decide) dX1_worth_76 lkm_X1_29 cal_X11_cell rfl (Nat.le_of_ble_eq_true rfl) rfl) ?_
      refine r_jL1 (j := 87) (lvj := fun y13 => [some (.ref (G.2.2.2 (13))), some (.ref (G.2.2.2 (a1))), some (.int c2), some (.int c3), none]) (stj := fun y13 => [.int y13, .int (c2 - 1), .ref (G.2.2.2 (13 + 2))]) (Mj := fun y13 => M) (fun y13 => ?_) (fun hj87 => ?_)
      · refine c_V (inv_SN (mi := mi_X1_worth) (rest := []) (X11_put_ok G aX_15p (c2 - 1) y13 M) rfl (by decide) dX1_worth_87 lkm_X1_33 cal_X11_put rfl (Nat.le_of_ble_eq_true rfl) rfl) (fun M14 => ?_)
        refine r_goto (tgt := 178) dX1_worth_90 rfl ?_
        exact r_lk (hj178 c2 M14) (And.intro rfl (And.intro rfl (And.intro rfl (And.intro rfl True.intro))))
      refine r_if_ne (tgt := 86) dX1_worth_79 rfl (fun h12 => ?_) (fun h12 => ?_)
      · refine r_iconst (x := 1) dX1_worth_82 rfl ?_
        refine r_goto (tgt := 87) dX1_worth_83 rfl ?_
        exact r_lk (hj87 1) (And.intro rfl (And.intro rfl (And.intro rfl (And.intro rfl True.intro))))
      refine r_iconst (x := 0) dX1_worth_86 rfl ?_
      exact r_lk (hj87 0) (And.intro rfl (And.intro rfl (And.intro rfl (And.intro rfl True.intro))))
    refine r_iload dX1_worth_93 rfl ?_
    refine r_sipush (x := 20000) dX1_worth_95 rfl ?_
    refine r_icmp_lt (tgt := 144) dX1_worth_98 rfl (fun h7 => ?_) (fun h7 => ?_)
    · refine r_aload_n dX1_worth_144 rfl ?_
      refine r_getf (v := .ref (G.2.2.2 (13 + 2))) dX1_worth_145 fX_13_1 kX1 (by decide) lkf_X1_13 rfl ?_
      refine r_iload_n dX1_worth_148 rfl ?_
      refine r_iload dX1_worth_149 rfl ?_
      refine r_sipush (x := 10000) dX1_worth_151 rfl ?_
      refine r_jL1 (j := 172) (lvj := fun y9 => [some (.ref (G.2.2.2 (13))), some (.ref (G.2.2.2 (a1))), some (.int c2), some (.int c3), none]) (stj := fun y9 => [.int y9, .int c2, .ref (G.2.2.2 (13 + 2))]) (Mj := fun y9 => M) (fun y9 => ?_) (fun hj172 => ?_)
      · refine c_V (inv_SN (mi := mi_X1_worth) (rest := []) (X11_put_ok G aX_15p c2 y9 M) rfl (by decide) dX1_worth_172 lkm_X1_33 cal_X11_put rfl (Nat.le_of_ble_eq_true rfl) rfl) (fun M10 => ?_)
        refine r_iinc (y := c2 + 1) (lv' := [some (.ref (G.2.2.2 (13))), some (.ref (G.2.2.2 (a1))), some (.int (c2 + 1)), some (.int c3), none]) dX1_worth_175 rfl rfl (Nat.le_of_ble_eq_true rfl) rfl rfl ?_
        exact r_lk (hj178 (c2 + 1) M10) (And.intro rfl (And.intro rfl (And.intro rfl (And.intro rfl True.intro))))
      refine r_icmp_lt (tgt := 170) dX1_worth_154 rfl (fun h8 => ?_) (fun h8 => ?_)
      · refine r_iload dX1_worth_170 rfl ?_
        exact r_lk (hj172 y5) (And.intro rfl (And.intro rfl (And.intro rfl (And.intro rfl True.intro))))
      refine r_aload_n dX1_worth_157 rfl ?_
      refine r_iload dX1_worth_158 rfl ?_
      refine r_sipush (x := 10000) dX1_worth_160 rfl ?_
      refine r_isub dX1_worth_163 ?_
      refine c_I (inv_SN (mi := mi_X1_worth) (rest := [.int c2, .ref (G.2.2.2 (13 + 2))]) (X11_cell_ok G ha1 (y5 - 10000) M) rfl (by decide) dX1_worth_164 lkm_X1_29 cal_X11_cell rfl (Nat.le_of_ble_eq_true rfl) rfl) ?_
      refine r_goto (tgt := 172) dX1_worth_167 rfl ?_
      exact r_lk (hj172 (X11_cell a1 (y5 - 10000) M)) (And.intro rfl (And.intro rfl (And.intro rfl (And.intro rfl True.intro))))
    refine r_iinc (y := c2 + (-1)) (lv' := [some (.ref (G.2.2.2 (13))), some (.ref (G.2.2.2 (a1))), some (.int (c2 + (-1))), some (.int c3), some (.int y5)]) dX1_worth_101 rfl rfl (Nat.le_of_ble_eq_true rfl) rfl rfl ?_
    refine r_aload_n dX1_worth_104 rfl ?_
    refine r_getf (v := .ref (G.2.2.2 (13 + 2))) dX1_worth_105 fX_13_1 kX1 (by decide) lkf_X1_13 rfl ?_
    refine r_iload_n dX1_worth_108 rfl ?_
    refine r_iconst (x := 1) dX1_worth_109 rfl ?_
    refine r_isub dX1_worth_110 ?_
    refine r_iload dX1_worth_111 rfl ?_
    refine r_sipush (x := 20000) dX1_worth_113 rfl ?_
    refine r_isub dX1_worth_116 ?_
    refine r_aload_n dX1_worth_117 rfl ?_
    refine r_getf (v := .ref (G.2.2.2 (13 + 2))) dX1_worth_118 fX_13_1 kX1 (by decide) lkf_X1_13 rfl ?_
    refine r_iload_n dX1_worth_121 rfl ?_
    refine r_iconst (x := 1) dX1_worth_122 rfl ?_
    refine r_isub dX1_worth_123 ?_
    refine c_I (inv_SN (mi := mi_X1_worth) (rest := [.int (y5 - 20000), .int ((c2 + (-1)) - 1), .ref (G.2.2.2 (13 + 2))]) (X11_cell_ok G aX_15p ((c2 + (-1)) - 1) M) rfl (by decide) dX1_worth_124 lkm_X1_29 cal_X11_cell rfl (Nat.le_of_ble_eq_true rfl) rfl) ?_
    refine r_aload_n dX1_worth_127 rfl ?_
    refine r_getf (v := .ref (G.2.2.2 (13 + 2))) dX1_worth_128 fX_13_1 kX1 (by decide) lkf_X1_13 rfl ?_
    refine r_iload_n dX1_worth_131 rfl ?_
    refine c_I (inv_SN (mi := mi_X1_worth) (rest := [.int ((X11_cell (13 + 2) ((c2 + (-1)) - 1) M)), .int (y5 - 20000), .int ((c2 + (-1)) - 1), .ref (G.2.2.2 (13 + 2))]) (X11_cell_ok G aX_15p (c2 + (-1)) M) rfl (by decide) dX1_worth_132 lkm_X1_29 cal_X11_cell rfl (Nat.le_of_ble_eq_true rfl) rfl) ?_
    refine c_I (inv_S (mi := mi_X1_worth) (rest := [.int ((c2 + (-1)) - 1), .ref (G.2.2.2 (13 + 2))]) (X1_joined_ok G (y5 - 20000) (X11_cell (13 + 2) ((c2 + (-1)) - 1) M) (X11_cell (13 + 2) (c2 + (-1)) M) M) rfl (by decide) dX1_worth_135 lkm_X1_37 cal_X1_joined rfl (Nat.le_of_ble_eq_true rfl) rfl) ?_
    refine c_V (inv_SN (mi := mi_X1_worth) (rest := []) (X11_put_ok G aX_15p ((c2 + (-1)) - 1) (X1_joined (y5 - 20000) (X11_cell (13 + 2) ((c2 + (-1)) - 1) M) (X11_cell (13 + 2) (c2 + (-1)) M)) M) rfl (by decide) dX1_worth_138 lkm_X1_33 cal_X11_put rfl (Nat.le_of_ble_eq_true rfl) rfl) (fun M11 => ?_)
    refine r_goto (tgt := 178) dX1_worth_141 rfl ?_
    exact r_lk (hj178 (c2 + (-1)) M11) (And.intro rfl (And.intro rfl (And.intro rfl (And.intro rfl True.intro))))
set_option maxRecDepth 100000 in
set_option maxHeartbeats 4000000 in
theorem X1_worth_ok_13 (G : Gh) {a1 : Nat} (ha1 : zar zTX a1 = some (0, zlen zTX a1)) (M : Mem) : Mt G mi_X1_worth [.ref (G.2.2.2 (13)), .ref (G.2.2.2 (a1))] M ((dO dIM) (X1_worth 13 a1 M)) := by
  refine Mt_of (lv := [some (.ref (G.2.2.2 (13))), some (.ref (G.2.2.2 (a1)))]) (by decide) rfl (Nat.le_of_ble_eq_true rfl) rfl ?_
  refine r_le (lv' := [some (.ref (G.2.2.2 (13))), some (.ref (G.2.2.2 (a1))), none, none, none]) (And.intro rfl (And.intro rfl True.intro)) ?_
  unfold X1_worth
  refine r_aload_n dX1_worth_0 rfl ?_
  refine r_getf (v := .int (M.1 13 2)) dX1_worth_1 fX_13_2 kX1 (by decide) lkf_X1_16 rfl ?_
  refine r_if_ne (tgt := 25) dX1_worth_4 rfl (fun h1 => ?_) (fun h1 => ?_)
  · refine r_aload_n dX1_worth_7 rfl ?_
    refine r_iconst (x := 0) dX1_worth_8 rfl ?_
    refine c_I (inv_SN (mi := mi_X1_worth) (rest := []) (X11_cell_ok G ha1 0 M) rfl (by decide) dX1_worth_9 lkm_X1_29 cal_X11_cell rfl (Nat.le_of_ble_eq_true rfl) rfl) ?_
    refine r_aload_n dX1_worth_12 rfl ?_
    refine r_iconst (x := 1) dX1_worth_13 rfl ?_
    refine c_I (inv_SN (mi := mi_X1_worth) (rest := [.int ((X11_cell a1 0 M))]) (X11_cell_ok G ha1 1 M) rfl (by decide) dX1_worth_14 lkm_X1_29 cal_X11_cell rfl (Nat.le_of_ble_eq_true rfl) rfl) ?_
    refine r_iadd dX1_worth_17 ?_
    refine r_aload_n dX1_worth_18 rfl ?_
    refine r_iconst (x := 2) dX1_worth_19 rfl ?_
    refine c_I (inv_SN (mi := mi_X1_worth) (rest := [.int ((X11_cell a1 0 M) + (X11_cell a1 1 M))]) (X11_cell_ok G ha1 2 M) rfl (by decide) dX1_worth_20 lkm_X1_29 cal_X11_cell rfl (Nat.le_of_ble_eq_true rfl) rfl) ?_
    refine r_iadd dX1_worth_23 ?_
    exact r_iret (ty := .int) dX1_worth_24 rfl rfl rfl
  refine r_iconst (x := 0) dX1_worth_25 rfl ?_
  refine r_istore_n (lv' := [some (.ref (G.2.2.2 (13))), some (.ref (G.2.2.2 (a1))), some (.int 0), none, none]) dX1_worth_26 (Nat.le_of_ble_eq_true rfl) rfl rfl ?_
  refine r_iconst (x := 0) dX1_worth_27 rfl ?_
  refine r_istore_n (lv' := [some (.ref (G.2.2.2 (13))), some (.ref (G.2.2.2 (a1))), some (.int 0), some (.int 0), none]) dX1_worth_28 (Nat.le_of_ble_eq_true rfl) rfl rfl ?_
  refine r_jB1 (j := 184) (lvj := fun M17 => [some (.ref (G.2.2.2 (13))), none, none, none, none]) (stj := fun M17 => []) (Mj := fun M17 => M17) (fun M17 => ?_) (fun hj184 => ?_)
  · refine r_aload_n dX1_worth_184 rfl ?_
    refine r_getf (v := .ref (G.2.2.2 (13 + 2))) dX1_worth_185 fX_13_1 kX1 (by decide) lkf_X1_13 rfl ?_
    refine r_iconst (x := 0) dX1_worth_188 rfl ?_
    refine c_I (inv_SN (mi := mi_X1_worth) (rest := []) (X11_cell_ok G aX_15p 0 M17) rfl (by decide) dX1_worth_189 lkm_X1_29 cal_X11_cell rfl (Nat.le_of_ble_eq_true rfl) rfl) ?_
    exact r_iret (ty := .int) dX1_worth_192 rfl rfl rfl
  exact r_lk (X1_worth_L1_ok_13 G ha1 rfl hj184 zFU 0 0 M) (And.intro rfl (And.intro rfl (And.intro rfl (And.intro rfl True.intro))))
set_option maxRecDepth 100000 in
set_option maxHeartbeats 4000000 in
theorem X1_worth_L1_ok_32 (G : Gh) {a1 : Nat} (ha1 : zar zTX a1 = some (0, zlen zTX a1)) {dn : Option (Mem) → Option (Option Value × Mem)} (hs : dn none = none) (hx : ∀ (M17 : Mem), Wr G mi_X1_worth dn 184 [some (.ref (G.2.2.2 (32))), none, none, none, none] [] M17 (some M17)) : ∀ (n : Nat) (c2 : Int32) (c3 : Int32) (M : Mem), Wr G mi_X1_worth dn 29 [some (.ref (G.2.2.2 (32))), some (.ref (G.2.2.2 (a1))), some (.int c2), some (.int c3), none] [] M (X1_worth_L1 32 a1 n c2 c3 M) := by
  intro n
  induction n with
  | zero => intro c2 c3 M; exact r_none (by exact hs)
  | succ n ih =>
    intro c2 c3 M
    rw [X1_worth_L1]
    refine r_iload_n dX1_worth_29 rfl ?_
    refine r_aload_n dX1_worth_30 rfl ?_
    refine r_getf (v := .int (M.1 32 2)) dX1_worth_31 fX_32_2 kX1 (by decide) lkf_X1_16 rfl ?_
    refine r_icmp_ge (tgt := 184) dX1_worth_34 rfl (fun h2 => ?_) (fun h2 => ?_)
    · exact r_lk (hx M) (And.intro rfl True.intro)
    refine r_iload_n dX1_worth_37 rfl ?_
    refine r_aload_n dX1_worth_38 rfl ?_
    refine r_getf (v := .ref (G.2.2.2 (32 + 1))) dX1_worth_39 fX_32_0 kX1 (by decide) lkf_X1_9 rfl ?_
    refine r_alen (v := 300) dX1_worth_42 aX_33 (by decide) rfl ?_
    refine r_icmp_ge (tgt := 184) dX1_worth_43 rfl (fun h3 => ?_) (fun h3 => ?_)
    · exact r_lk (hx M) (And.intro rfl True.intro)
    refine r_aload_n dX1_worth_46 rfl ?_
    refine r_getf (v := .ref (G.2.2.2 (32 + 1))) dX1_worth_47 fX_32_0 kX1 (by decide) lkf_X1_9 rfl ?_
    refine r_iload_n dX1_worth_50 rfl ?_
    refine r_gd (by exact hs) (fun g4 => ?_)
    refine r_iald dX1_worth_51 aX_33 (inb_in g4) rfl ?_
    refine r_letI (fun y5 => ?_)
    refine r_istore (lv' := [some (.ref (G.2.2.2 (32))), some (.ref (G.2.2.2 (a1))), some (.int c2), some (.int c3), some (.int y5)]) dX1_worth_52 (Nat.le_of_ble_eq_true rfl) rfl rfl ?_
    refine r_iload dX1_worth_54 rfl ?_
    refine r_sipush (x := 20033) dX1_worth_56 rfl ?_
    refine r_jL2 (j := 178) (lvj := fun y15 M16 => [some (.ref (G.2.2.2 (32))), some (.ref (G.2.2.2 (a1))), some (.int y15), some (.int c3), none]) (stj := fun y15 M16 => []) (Mj := fun y15 M16 => M16) (fun y15 M16 => ?_) (fun hj178 => ?_)
    · refine r_iinc (y := c3 + 1) (lv' := [some (.ref (G.2.2.2 (32))), some (.ref (G.2.2.2 (a1))), some (.int y15), some (.int (c3 + 1)), none]) dX1_worth_178 rfl rfl (Nat.le_of_ble_eq_true rfl) rfl rfl ?_
      refine r_goto (tgt := 29) dX1_worth_181 rfl ?_
      exact r_lk (ih y15 (c3 + 1) M16) (And.intro rfl (And.intro rfl (And.intro rfl (And.intro rfl True.intro))))
    refine r_icmp_ne (tgt := 93) dX1_worth_59 rfl (fun h6 => ?_) (fun h6 => ?_)
    · refine r_aload_n dX1_worth_62 rfl ?_
      refine r_getf (v := .ref (G.2.2.2 (32 + 2))) dX1_worth_63 fX_32_1 kX1 (by decide) lkf_X1_13 rfl ?_
      refine r_iload_n dX1_worth_66 rfl ?_
      refine r_iconst (x := 1) dX1_worth_67 rfl ?_
      refine r_isub dX1_worth_68 ?_
      refine r_aload_n dX1_worth_69 rfl ?_
      refine r_getf (v := .ref (G.2.2.2 (32 + 2))) dX1_worth_70 fX_32_1 kX1 (by decide) lkf_X1_13 rfl ?_
      refine r_iload_n dX1_worth_73 rfl ?_
      refine r_iconst (x := 1) dX1_worth_74 rfl ?_
      refine r_isub dX1_worth_75 ?_
      refine c_I (inv_SN (mi := mi_X1_worth) (rest := [.int (c2 - 1), .ref (G.2.2.2 (32 + 2))]) (X11_cell_ok G aX_34p (c2 - 1) M) rfl (by decide) dX1_worth_76 lkm_X1_29 cal_X11_cell rfl (Nat.le_of_ble_eq_true rfl) rfl) ?_
      refine r_jL1 (j := 87) (lvj := fun y13 => [some (.ref (G.2.2.2 (32))), some (.ref (G.2.2.2 (a1))), some (.int c2), some (.int c3), none]) (stj := fun y13 => [.int y13, .int (c2 - 1), .ref (G.2.2.2 (32 + 2))]) (Mj := fun y13 => M) (fun y13 => ?_) (fun hj87 => ?_)
      · refine c_V (inv_SN (mi := mi_X1_worth) (rest := []) (X11_put_ok G aX_34p (c2 - 1) y13 M) rfl (by decide) dX1_worth_87 lkm_X1_33 cal_X11_put rfl (Nat.le_of_ble_eq_true rfl) rfl) (fun M14 => ?_)
        refine r_goto (tgt := 178) dX1_worth_90 rfl ?_
        exact r_lk (hj178 c2 M14) (And.intro rfl (And.intro rfl (And.intro rfl (And.intro rfl True.intro))))
      refine r_if_ne (tgt := 86) dX1_worth_79 rfl (fun h12 => ?_) (fun h12 => ?_)
      · refine r_iconst (x := 1) dX1_worth_82 rfl ?_
        refine r_goto (tgt := 87) dX1_worth_83 rfl ?_
        exact r_lk (hj87 1) (And.intro rfl (And.intro rfl (And.intro rfl (And.intro rfl True.intro))))
      refine r_iconst (x := 0) dX1_worth_86 rfl ?_
      exact r_lk (hj87 0) (And.intro rfl (And.intro rfl (And.intro rfl (And.intro rfl True.intro))))
    refine r_iload dX1_worth_93 rfl ?_
    refine r_sipush (x := 20000) dX1_worth_95 rfl ?_
    refine r_icmp_lt (tgt := 144) dX1_worth_98 rfl (fun h7 => ?_) (fun h7 => ?_)
    · refine r_aload_n dX1_worth_144 rfl ?_
      refine r_getf (v := .ref (G.2.2.2 (32 + 2))) dX1_worth_145 fX_32_1 kX1 (by decide) lkf_X1_13 rfl ?_
      refine r_iload_n dX1_worth_148 rfl ?_
      refine r_iload dX1_worth_149 rfl ?_
      refine r_sipush (x := 10000) dX1_worth_151 rfl ?_
      refine r_jL1 (j := 172) (lvj := fun y9 => [some (.ref (G.2.2.2 (32))), some (.ref (G.2.2.2 (a1))), some (.int c2), some (.int c3), none]) (stj := fun y9 => [.int y9, .int c2, .ref (G.2.2.2 (32 + 2))]) (Mj := fun y9 => M) (fun y9 => ?_) (fun hj172 => ?_)
      · refine c_V (inv_SN (mi := mi_X1_worth) (rest := []) (X11_put_ok G aX_34p c2 y9 M) rfl (by decide) dX1_worth_172 lkm_X1_33 cal_X11_put rfl (Nat.le_of_ble_eq_true rfl) rfl) (fun M10 => ?_)
        refine r_iinc (y := c2 + 1) (lv' := [some (.ref (G.2.2.2 (32))), some (.ref (G.2.2.2 (a1))), some (.int (c2 + 1)), some (.int c3), none]) dX1_worth_175 rfl rfl (Nat.le_of_ble_eq_true rfl) rfl rfl ?_
        exact r_lk (hj178 (c2 + 1) M10) (And.intro rfl (And.intro rfl (And.intro rfl (And.intro rfl True.intro))))
      refine r_icmp_lt (tgt := 170) dX1_worth_154 rfl (fun h8 => ?_) (fun h8 => ?_)
      · refine r_iload dX1_worth_170 rfl ?_
        exact r_lk (hj172 y5) (And.intro rfl (And.intro rfl (And.intro rfl (And.intro rfl True.intro))))
      refine r_aload_n dX1_worth_157 rfl ?_
      refine r_iload dX1_worth_158 rfl ?_
      refine r_sipush (x := 10000) dX1_worth_160 rfl ?_
      refine r_isub dX1_worth_163 ?_
      refine c_I (inv_SN (mi := mi_X1_worth) (rest := [.int c2, .ref (G.2.2.2 (32 + 2))]) (X11_cell_ok G ha1 (y5 - 10000) M) rfl (by decide) dX1_worth_164 lkm_X1_29 cal_X11_cell rfl (Nat.le_of_ble_eq_true rfl) rfl) ?_
      refine r_goto (tgt := 172) dX1_worth_167 rfl ?_
      exact r_lk (hj172 (X11_cell a1 (y5 - 10000) M)) (And.intro rfl (And.intro rfl (And.intro rfl (And.intro rfl True.intro))))
    refine r_iinc (y := c2 + (-1)) (lv' := [some (.ref (G.2.2.2 (32))), some (.ref (G.2.2.2 (a1))), some (.int (c2 + (-1))), some (.int c3), some (.int y5)]) dX1_worth_101 rfl rfl (Nat.le_of_ble_eq_true rfl) rfl rfl ?_
    refine r_aload_n dX1_worth_104 rfl ?_
    refine r_getf (v := .ref (G.2.2.2 (32 + 2))) dX1_worth_105 fX_32_1 kX1 (by decide) lkf_X1_13 rfl ?_
    refine r_iload_n dX1_worth_108 rfl ?_
    refine r_iconst (x := 1) dX1_worth_109 rfl ?_
    refine r_isub dX1_worth_110 ?_
    refine r_iload dX1_worth_111 rfl ?_
    refine r_sipush (x := 20000) dX1_worth_113 rfl ?_
    refine r_isub dX1_worth_116 ?_
    refine r_aload_n dX1_worth_117 rfl ?_
    refine r_getf (v := .ref (G.2.2.2 (32 + 2))) dX1_worth_118 fX_32_1 kX1 (by decide) lkf_X1_13 rfl ?_
    refine r_iload_n dX1_worth_121 rfl ?_
    refine r_iconst (x := 1) dX1_worth_122 rfl ?_
    refine r_isub dX1_worth_123 ?_
    refine c_I (inv_SN (mi := mi_X1_worth) (rest := [.int (y5 - 20000), .int ((c2 + (-1)) - 1), .ref (G.2.2.2 (32 + 2))]) (X11_cell_ok G aX_34p ((c2 + (-1)) - 1) M) rfl (by decide) dX1_worth_124 lkm_X1_29 cal_X11_cell rfl (Nat.le_of_ble_eq_true rfl) rfl) ?_
    refine r_aload_n dX1_worth_127 rfl ?_
    refine r_getf (v := .ref (G.2.2.2 (32 + 2))) dX1_worth_128 fX_32_1 kX1 (by decide) lkf_X1_13 rfl ?_
    refine r_iload_n dX1_worth_131 rfl ?_
    refine c_I (inv_SN (mi := mi_X1_worth) (rest := [.int ((X11_cell (32 + 2) ((c2 + (-1)) - 1) M)), .int (y5 - 20000), .int ((c2 + (-1)) - 1), .ref (G.2.2.2 (32 + 2))]) (X11_cell_ok G aX_34p (c2 + (-1)) M) rfl (by decide) dX1_worth_132 lkm_X1_29 cal_X11_cell rfl (Nat.le_of_ble_eq_true rfl) rfl) ?_
    refine c_I (inv_S (mi := mi_X1_worth) (rest := [.int ((c2 + (-1)) - 1), .ref (G.2.2.2 (32 + 2))]) (X1_joined_ok G (y5 - 20000) (X11_cell (32 + 2) ((c2 + (-1)) - 1) M) (X11_cell (32 + 2) (c2 + (-1)) M) M) rfl (by decide) dX1_worth_135 lkm_X1_37 cal_X1_joined rfl (Nat.le_of_ble_eq_true rfl) rfl) ?_
    refine c_V (inv_SN (mi := mi_X1_worth) (rest := []) (X11_put_ok G aX_34p ((c2 + (-1)) - 1) (X1_joined (y5 - 20000) (X11_cell (32 + 2) ((c2 + (-1)) - 1) M) (X11_cell (32 + 2) (c2 + (-1)) M)) M) rfl (by decide) dX1_worth_138 lkm_X1_33 cal_X11_put rfl (Nat.le_of_ble_eq_true rfl) rfl) (fun M11 => ?_)
    refine r_goto (tgt := 178) dX1_worth_141 rfl ?_
    exact r_lk (hj178 (c2 + (-1)) M11) (And.intro rfl (And.intro rfl (And.intro rfl (And.intro rfl True.intro))))
set_option maxRecDepth 100000 in
set_option maxHeartbeats 4000000 in
theorem X1_worth_ok_32 (G : Gh) {a1 : Nat} (ha1 : zar zTX a1 = some (0, zlen zTX a1)) (M : Mem) : Mt G mi_X1_worth [.ref (G.2.2.2 (32)), .ref (G.2.2.2 (a1))] M ((dO dIM) (X1_worth 32 a1 M)) := by
  refine Mt_of (lv := [some (.ref (G.2.2.2 (32))), some (.ref (G.2.2.2 (a1)))]) (by decide) rfl (Nat.le_of_ble_eq_true rfl) rfl ?_
  refine r_le (lv' := [some (.ref (G.2.2.2 (32))), some (.ref (G.2.2.2 (a1))), none, none, none]) (And.intro rfl (And.intro rfl True.intro)) ?_
  unfold X1_worth
  refine r_aload_n dX1_worth_0 rfl ?_
  refine r_getf (v := .int (M.1 32 2)) dX1_worth_1 fX_32_2 kX1 (by decide) lkf_X1_16 rfl ?_
  refine r_if_ne (tgt := 25) dX1_worth_4 rfl (fun h1 => ?_) (fun h1 => ?_)
  · refine r_aload_n dX1_worth_7 rfl ?_
    refine r_iconst (x := 0) dX1_worth_8 rfl ?_
    refine c_I (inv_SN (mi := mi_X1_worth) (rest := []) (X11_cell_ok G ha1 0 M) rfl (by decide) dX1_worth_9 lkm_X1_29 cal_X11_cell rfl (Nat.le_of_ble_eq_true rfl) rfl) ?_
    refine r_aload_n dX1_worth_12 rfl ?_
    refine r_iconst (x := 1) dX1_worth_13 rfl ?_
    refine c_I (inv_SN (mi := mi_X1_worth) (rest := [.int ((X11_cell a1 0 M))]) (X11_cell_ok G ha1 1 M) rfl (by decide) dX1_worth_14 lkm_X1_29 cal_X11_cell rfl (Nat.le_of_ble_eq_true rfl) rfl) ?_
    refine r_iadd dX1_worth_17 ?_
    refine r_aload_n dX1_worth_18 rfl ?_
    refine r_iconst (x := 2) dX1_worth_19 rfl ?_
    refine c_I (inv_SN (mi := mi_X1_worth) (rest := [.int ((X11_cell a1 0 M) + (X11_cell a1 1 M))]) (X11_cell_ok G ha1 2 M) rfl (by decide) dX1_worth_20 lkm_X1_29 cal_X11_cell rfl (Nat.le_of_ble_eq_true rfl) rfl) ?_
    refine r_iadd dX1_worth_23 ?_
    exact r_iret (ty := .int) dX1_worth_24 rfl rfl rfl
  refine r_iconst (x := 0) dX1_worth_25 rfl ?_
  refine r_istore_n (lv' := [some (.ref (G.2.2.2 (32))), some (.ref (G.2.2.2 (a1))), some (.int 0), none, none]) dX1_worth_26 (Nat.le_of_ble_eq_true rfl) rfl rfl ?_
  refine r_iconst (x := 0) dX1_worth_27 rfl ?_
  refine r_istore_n (lv' := [some (.ref (G.2.2.2 (32))), some (.ref (G.2.2.2 (a1))), some (.int 0), some (.int 0), none]) dX1_worth_28 (Nat.le_of_ble_eq_true rfl) rfl rfl ?_
  refine r_jB1 (j := 184) (lvj := fun M17 => [some (.ref (G.2.2.2 (32))), none, none, none, none]) (stj := fun M17 => []) (Mj := fun M17 => M17) (fun M17 => ?_) (fun hj184 => ?_)
  · refine r_aload_n dX1_worth_184 rfl ?_
    refine r_getf (v := .ref (G.2.2.2 (32 + 2))) dX1_worth_185 fX_32_1 kX1 (by decide) lkf_X1_13 rfl ?_
    refine r_iconst (x := 0) dX1_worth_188 rfl ?_
    refine c_I (inv_SN (mi := mi_X1_worth) (rest := []) (X11_cell_ok G aX_34p 0 M17) rfl (by decide) dX1_worth_189 lkm_X1_29 cal_X11_cell rfl (Nat.le_of_ble_eq_true rfl) rfl) ?_
    exact r_iret (ty := .int) dX1_worth_192 rfl rfl rfl
  exact r_lk (X1_worth_L1_ok_32 G ha1 rfl hj184 zFU 0 0 M) (And.intro rfl (And.intro rfl (And.intro rfl (And.intro rfl True.intro))))

theorem dX9_growthWith_0 : decode cX9_growthWith 0 = .ok (.iconst 0, 1) := by decide +kernel
theorem dX9_growthWith_1 : decode cX9_growthWith 1 = .ok (.istore_n 3, 1) := by decide +kernel
theorem dX9_growthWith_2 : decode cX9_growthWith 2 = .ok (.iload_n 3, 1) := by decide +kernel
theorem dX9_growthWith_3 : decode cX9_growthWith 3 = .ok (.iconst 3, 1) := by decide +kernel
theorem dX9_growthWith_4 : decode cX9_growthWith 4 = .ok (.if_icmp .ge 82, 3) := by decide +kernel
theorem dX9_growthWith_7 : decode cX9_growthWith 7 = .ok (.aload_n 0, 1) := by decide +kernel
theorem dX9_growthWith_8 : decode cX9_growthWith 8 = .ok (.iload_n 2, 1) := by decide +kernel
theorem dX9_growthWith_9 : decode cX9_growthWith 9 = .ok (.iload_n 3, 1) := by decide +kernel
theorem dX9_growthWith_10 : decode cX9_growthWith 10 = .ok (.invokevirtual 87, 3) := by decide +kernel
theorem dX9_growthWith_13 : decode cX9_growthWith 13 = .ok (.istore 4, 2) := by decide +kernel
theorem dX9_growthWith_15 : decode cX9_growthWith 15 = .ok (.iload_n 2, 1) := by decide +kernel
theorem dX9_growthWith_16 : decode cX9_growthWith 16 = .ok (.iconst 1, 1) := by decide +kernel
theorem dX9_growthWith_17 : decode cX9_growthWith 17 = .ok (.isub, 1) := by decide +kernel
theorem dX9_growthWith_18 : decode cX9_growthWith 18 = .ok (.istore 5, 2) := by decide +kernel
theorem dX9_growthWith_20 : decode cX9_growthWith 20 = .ok (.iload 5, 2) := by decide +kernel
theorem dX9_growthWith_22 : decode cX9_growthWith 22 = .ok (.iload_n 2, 1) := by decide +kernel
theorem dX9_growthWith_23 : decode cX9_growthWith 23 = .ok (.iconst 1, 1) := by decide +kernel
theorem dX9_growthWith_24 : decode cX9_growthWith 24 = .ok (.iadd, 1) := by decide +kernel
theorem dX9_growthWith_25 : decode cX9_growthWith 25 = .ok (.if_icmp .gt 43, 3) := by decide +kernel
theorem dX9_growthWith_28 : decode cX9_growthWith 28 = .ok (.aload_n 1, 1) := by decide +kernel
theorem dX9_growthWith_29 : decode cX9_growthWith 29 = .ok (.iload 5, 2) := by decide +kernel
theorem dX9_growthWith_31 : decode cX9_growthWith 31 = .ok (.iconst 3, 1) := by decide +kernel
theorem dX9_growthWith_32 : decode cX9_growthWith 32 = .ok (.imul, 1) := by decide +kernel
theorem dX9_growthWith_33 : decode cX9_growthWith 33 = .ok (.iload_n 3, 1) := by decide +kernel
theorem dX9_growthWith_34 : decode cX9_growthWith 34 = .ok (.iadd, 1) := by decide +kernel
theorem dX9_growthWith_35 : decode cX9_growthWith 35 = .ok (.invokestatic 36, 3) := by decide +kernel
theorem dX9_growthWith_38 : decode cX9_growthWith 38 = .ok (.istore 6, 2) := by decide +kernel
theorem dX9_growthWith_40 : decode cX9_growthWith 40 = .ok (.iload 6, 2) := by decide +kernel
theorem dX9_growthWith_42 : decode cX9_growthWith 42 = .ok (.ifCond .le 20, 3) := by decide +kernel
theorem dX9_growthWith_45 : decode cX9_growthWith 45 = .ok (.iload 4, 2) := by decide +kernel
theorem dX9_growthWith_47 : decode cX9_growthWith 47 = .ok (.aload_n 0, 1) := by decide +kernel
theorem dX9_growthWith_48 : decode cX9_growthWith 48 = .ok (.getfield 23, 3) := by decide +kernel
theorem dX9_growthWith_51 : decode cX9_growthWith 51 = .ok (.iload 5, 2) := by decide +kernel
theorem dX9_growthWith_53 : decode cX9_growthWith 53 = .ok (.iload_n 2, 1) := by decide +kernel
theorem dX9_growthWith_54 : decode cX9_growthWith 54 = .ok (.iload 6, 2) := by decide +kernel
theorem dX9_growthWith_56 : decode cX9_growthWith 56 = .ok (.invokevirtual 90, 3) := by decide +kernel
theorem dX9_growthWith_59 : decode cX9_growthWith 59 = .ok (.iadd, 1) := by decide +kernel
theorem dX9_growthWith_60 : decode cX9_growthWith 60 = .ok (.istore 4, 2) := by decide +kernel
theorem dX9_growthWith_62 : decode cX9_growthWith 62 = .ok (.iinc 5 1, 3) := by decide +kernel
theorem dX9_growthWith_65 : decode cX9_growthWith 65 = .ok (.goto (-45), 3) := by decide +kernel
theorem dX9_growthWith_68 : decode cX9_growthWith 68 = .ok (.aload_n 0, 1) := by decide +kernel
theorem dX9_growthWith_69 : decode cX9_growthWith 69 = .ok (.getfield 17, 3) := by decide +kernel
theorem dX9_growthWith_72 : decode cX9_growthWith 72 = .ok (.iconst 0, 1) := by decide +kernel
theorem dX9_growthWith_73 : decode cX9_growthWith 73 = .ok (.iload_n 3, 1) := by decide +kernel
theorem dX9_growthWith_74 : decode cX9_growthWith 74 = .ok (.iadd, 1) := by decide +kernel
theorem dX9_growthWith_75 : decode cX9_growthWith 75 = .ok (.iload 4, 2) := by decide +kernel
theorem dX9_growthWith_77 : decode cX9_growthWith 77 = .ok (.invokestatic 27, 3) := by decide +kernel
theorem dX9_growthWith_80 : decode cX9_growthWith 80 = .ok (.iinc 3 1, 3) := by decide +kernel
theorem dX9_growthWith_83 : decode cX9_growthWith 83 = .ok (.goto (-81), 3) := by decide +kernel
theorem dX9_growthWith_86 : decode cX9_growthWith 86 = .ok (.aload_n 0, 1) := by decide +kernel
theorem dX9_growthWith_87 : decode cX9_growthWith 87 = .ok (.getfield 17, 3) := by decide +kernel
theorem dX9_growthWith_90 : decode cX9_growthWith 90 = .ok (.iconst 3, 1) := by decide +kernel
theorem dX9_growthWith_91 : decode cX9_growthWith 91 = .ok (.aload_n 0, 1) := by decide +kernel
theorem dX9_growthWith_92 : decode cX9_growthWith 92 = .ok (.iload_n 2, 1) := by decide +kernel
theorem dX9_growthWith_93 : decode cX9_growthWith 93 = .ok (.invokevirtual 97, 3) := by decide +kernel
theorem dX9_growthWith_96 : decode cX9_growthWith 96 = .ok (.invokestatic 27, 3) := by decide +kernel
theorem dX9_growthWith_99 : decode cX9_growthWith 99 = .ok (.aload_n 0, 1) := by decide +kernel
theorem dX9_growthWith_100 : decode cX9_growthWith 100 = .ok (.getfield 17, 3) := by decide +kernel
theorem dX9_growthWith_103 : decode cX9_growthWith 103 = .ok (.iconst 4, 1) := by decide +kernel
theorem dX9_growthWith_104 : decode cX9_growthWith 104 = .ok (.aload_n 0, 1) := by decide +kernel
theorem dX9_growthWith_105 : decode cX9_growthWith 105 = .ok (.invokevirtual 100, 3) := by decide +kernel
theorem dX9_growthWith_108 : decode cX9_growthWith 108 = .ok (.invokestatic 27, 3) := by decide +kernel
theorem dX9_growthWith_111 : decode cX9_growthWith 111 = .ok (.aload_n 0, 1) := by decide +kernel
theorem dX9_growthWith_112 : decode cX9_growthWith 112 = .ok (.getfield 17, 3) := by decide +kernel
theorem dX9_growthWith_115 : decode cX9_growthWith 115 = .ok (.iconst 5, 1) := by decide +kernel
theorem dX9_growthWith_116 : decode cX9_growthWith 116 = .ok (.iload_n 2, 1) := by decide +kernel
theorem dX9_growthWith_117 : decode cX9_growthWith 117 = .ok (.invokestatic 27, 3) := by decide +kernel
theorem dX9_growthWith_120 : decode cX9_growthWith 120 = .ok (.aload_n 0, 1) := by decide +kernel
theorem dX9_growthWith_121 : decode cX9_growthWith 121 = .ok (.getfield 23, 3) := by decide +kernel
theorem dX9_growthWith_124 : decode cX9_growthWith 124 = .ok (.getfield 104, 3) := by decide +kernel
theorem dX9_growthWith_127 : decode cX9_growthWith 127 = .ok (.aload_n 0, 1) := by decide +kernel
theorem dX9_growthWith_128 : decode cX9_growthWith 128 = .ok (.getfield 17, 3) := by decide +kernel
theorem dX9_growthWith_131 : decode cX9_growthWith 131 = .ok (.invokevirtual 108, 3) := by decide +kernel
theorem dX9_growthWith_134 : decode cX9_growthWith 134 = .ok (.istore_n 3, 1) := by decide +kernel
theorem dX9_growthWith_135 : decode cX9_growthWith 135 = .ok (.bipush (-20), 2) := by decide +kernel
theorem dX9_growthWith_137 : decode cX9_growthWith 137 = .ok (.bipush 20, 2) := by decide +kernel
theorem dX9_growthWith_139 : decode cX9_growthWith 139 = .ok (.iload_n 3, 1) := by decide +kernel
theorem dX9_growthWith_140 : decode cX9_growthWith 140 = .ok (.invokestatic 74, 3) := by decide +kernel
theorem dX9_growthWith_143 : decode cX9_growthWith 143 = .ok (.invokestatic 112, 3) := by decide +kernel
theorem dX9_growthWith_146 : decode cX9_growthWith 146 = .ok (.ireturn, 1) := by decide +kernel
abbrev mi_X9_growthWith : MI := (zTX, RX9, yX9_growthWith, cX9_growthWith, 7, (some .int), 9)
theorem cal_X9_growthWith : zCalV mi_X9_growthWith 2 := ⟨⟨zTB_i4 79 (by decide +kernel), zTB_i4 77 (by decide +kernel), zTB_i4 78 (by decide +kernel), zTB_i1 8 (by decide +kernel)⟩, ⟨by decide, by decide, by decide +kernel⟩, by decide⟩
noncomputable def X9_growthWith_L2 (a1 : Nat) (x2 : Int32) (c3 : Int32) (M : Mem) : Nat → Int32 → Int32 → Option (Int32)
  | 0, _, _ => none
  | n + 1, c4, c5 =>
    if (x2 + 1) < c5 then
      some c4
    else
    lt_ (α := Int32) ((X11_cell a1 ((c5 * 3) + c3) M)) fun y4 =>
    l1_ (α := Int32) (
      if y4 ≤ 0 then
        c4
      else
      lt_ (α := Int32) (c4 + (X3_reach 23 c5 x2 y4 M)) fun y6 =>
      y6) fun y7 =>
    X9_growthWith_L2 a1 x2 c3 M n y7 (c5 + 1)
noncomputable def X9_growthWith_L1 (o0 : Nat) (a1 : Nat) (x2 : Int32) : Nat → Int32 → Mem → Option (Mem)
  | 0, _, _ => none
  | n + 1, c3, M =>
    if 3 ≤ c3 then
      some M
    else
    lt_ (α := Int32) ((X9_overAt o0 x2 c3 M)) fun y2 =>
    b1_ (α := Int32) (X9_growthWith_L2 a1 x2 c3 M zFU y2 (x2 - 1)) fun e8 =>
    lt_ (X11_put (o0 + 2) (0 + c3) e8 M) fun M9 =>
    X9_growthWith_L1 o0 a1 x2 n (c3 + 1) M9
noncomputable def X9_growthWith (o0 : Nat) (a1 : Nat) (x2 : Int32) (M : Mem) : Option (Int32 × Mem) :=
  b1_ (α := Mem) (X9_growthWith_L1 o0 a1 x2 zFU 0 M) fun M10 =>
  lt_ (X11_put (o0 + 2) 3 (X9_cropOf o0 x2 M10) M10) fun M11 =>
  lt_ (X11_put (o0 + 2) 4 (X9_weekNow o0 M11) M11) fun M12 =>
  lt_ (X11_put (o0 + 2) 5 x2 M12) fun M13 =>
  bp_ (X1_worth 32 (o0 + 2) M13) fun v14 M15 =>
  some ((if (-20) < (if v14 < 20 then v14 else 20) then (if v14 < 20 then v14 else 20) else (-20)), M15)
set_option maxRecDepth 100000 in
set_option maxHeartbeats 4000000 in
theorem X9_growthWith_L2_ok_35 (G : Gh) {a1 : Nat} (ha1 : zar zTX a1 = some (0, zlen zTX a1)) (x2 : Int32) (c3 : Int32) (M : Mem) {dn : Option (Int32) → Option (Option Value × Mem)} (hs : dn none = none) (hx : ∀ (e8 : Int32), Wr G mi_X9_growthWith dn 68 [some (.ref (G.2.2.2 (35))), some (.ref (G.2.2.2 (a1))), some (.int x2), some (.int c3), some (.int e8), none, none] [] M (some e8)) : ∀ (n : Nat) (c4 : Int32) (c5 : Int32), Wr G mi_X9_growthWith dn 20 [some (.ref (G.2.2.2 (35))), some (.ref (G.2.2.2 (a1))), some (.int x2), some (.int c3), some (.int c4), some (.int c5), none] [] M (X9_growthWith_L2 a1 x2 c3 M n c4 c5) := by
  intro n
  induction n with
  | zero => intro c4 c5; exact r_none (by exact hs)
  | succ n ih =>
    intro c4 c5
    rw [X9_growthWith_L2]
    refine r_iload dX9_growthWith_20 rfl ?_
    refine r_iload_n dX9_growthWith_22 rfl ?_
    refine r_iconst (x := 1) dX9_growthWith_23 rfl ?_
    refine r_iadd dX9_growthWith_24 ?_
    refine r_icmp_gt (tgt := 68) dX9_growthWith_25 rfl (fun h3 => ?_) (fun h3 => ?_)
    · exact r_lk (hx c4) (And.intro rfl (And.intro rfl (And.intro rfl (And.intro rfl (And.intro rfl True.intro)))))
    refine r_aload_n dX9_growthWith_28 rfl ?_
    refine r_iload dX9_growthWith_29 rfl ?_
    refine r_iconst (x := 3) dX9_growthWith_31 rfl ?_
    refine r_imul dX9_growthWith_32 ?_
    refine r_iload_n dX9_growthWith_33 rfl ?_
    refine r_iadd dX9_growthWith_34 ?_
    refine c_I (inv_SN (mi := mi_X9_growthWith) (rest := []) (X11_cell_ok G ha1 ((c5 * 3) + c3) M) rfl (by decide) dX9_growthWith_35 lkm_X9_36 cal_X11_cell rfl (Nat.le_of_ble_eq_true rfl) rfl) ?_
    refine r_letI (fun y4 => ?_)
    refine r_istore (lv' := [some (.ref (G.2.2.2 (35))), some (.ref (G.2.2.2 (a1))), some (.int x2), some (.int c3), some (.int c4), some (.int c5), some (.int y4)]) dX9_growthWith_38 (Nat.le_of_ble_eq_true rfl) rfl rfl ?_
    refine r_iload dX9_growthWith_40 rfl ?_
    refine r_jL1 (j := 62) (lvj := fun y7 => [some (.ref (G.2.2.2 (35))), some (.ref (G.2.2.2 (a1))), some (.int x2), some (.int c3), some (.int y7), some (.int c5), none]) (stj := fun y7 => []) (Mj := fun y7 => M) (fun y7 => ?_) (fun hj62 => ?_)
    · refine r_iinc (y := c5 + 1) (lv' := [some (.ref (G.2.2.2 (35))), some (.ref (G.2.2.2 (a1))), some (.int x2), some (.int c3), some (.int y7), some (.int (c5 + 1)), none]) dX9_growthWith_62 rfl rfl (Nat.le_of_ble_eq_true rfl) rfl rfl ?_
      refine r_goto (tgt := 20) dX9_growthWith_65 rfl ?_
      exact r_lk (ih y7 (c5 + 1)) (And.intro rfl (And.intro rfl (And.intro rfl (And.intro rfl (And.intro rfl (And.intro rfl True.intro))))))
    refine r_if_le (tgt := 62) dX9_growthWith_42 rfl (fun h5 => ?_) (fun h5 => ?_)
    · exact r_lk (hj62 c4) (And.intro rfl (And.intro rfl (And.intro rfl (And.intro rfl (And.intro rfl (And.intro rfl True.intro))))))
    refine r_iload dX9_growthWith_45 rfl ?_
    refine r_aload_n dX9_growthWith_47 rfl ?_
    refine r_getf (v := .ref (G.2.2.2 (23))) dX9_growthWith_48 fX_35_0 kX9 (by decide) lkf_X9_23 rfl ?_
    refine r_iload dX9_growthWith_51 rfl ?_
    refine r_iload_n dX9_growthWith_53 rfl ?_
    refine r_iload dX9_growthWith_54 rfl ?_
    refine c_I (inv_V (mi := mi_X9_growthWith) (b := 23) (rest := [.int c4]) (X3_reach_ok_23 G c5 x2 y4 M) rfl (by decide) dX9_growthWith_56 lkm_X9_90 cal_X3_reach cX_23 rfl rfl (Nat.le_of_ble_eq_true rfl) rfl) ?_
    refine r_iadd dX9_growthWith_59 ?_
    refine r_letI (fun y6 => ?_)
    refine r_istore (lv' := [some (.ref (G.2.2.2 (35))), some (.ref (G.2.2.2 (a1))), some (.int x2), some (.int c3), some (.int y6), some (.int c5), some (.int y4)]) dX9_growthWith_60 (Nat.le_of_ble_eq_true rfl) rfl rfl ?_
    exact r_lk (hj62 y6) (And.intro rfl (And.intro rfl (And.intro rfl (And.intro rfl (And.intro rfl (And.intro rfl True.intro))))))
set_option maxRecDepth 100000 in
set_option maxHeartbeats 4000000 in
theorem X9_growthWith_L1_ok_35 (G : Gh) {a1 : Nat} (ha1 : zar zTX a1 = some (0, zlen zTX a1)) (x2 : Int32) {dn : Option (Mem) → Option (Option Value × Mem)} (hs : dn none = none) (hx : ∀ (M10 : Mem), Wr G mi_X9_growthWith dn 86 [some (.ref (G.2.2.2 (35))), none, some (.int x2), none, none, none, none] [] M10 (some M10)) : ∀ (n : Nat) (c3 : Int32) (M : Mem), Wr G mi_X9_growthWith dn 2 [some (.ref (G.2.2.2 (35))), some (.ref (G.2.2.2 (a1))), some (.int x2), some (.int c3), none, none, none] [] M (X9_growthWith_L1 35 a1 x2 n c3 M) := by
  intro n
  induction n with
  | zero => intro c3 M; exact r_none (by exact hs)
  | succ n ih =>
    intro c3 M
    rw [X9_growthWith_L1]
    refine r_iload_n dX9_growthWith_2 rfl ?_
    refine r_iconst (x := 3) dX9_growthWith_3 rfl ?_
    refine r_icmp_ge (tgt := 86) dX9_growthWith_4 rfl (fun h1 => ?_) (fun h1 => ?_)
    · exact r_lk (hx M) (And.intro rfl (And.intro rfl True.intro))
    refine r_aload_n dX9_growthWith_7 rfl ?_
    refine r_iload_n dX9_growthWith_8 rfl ?_
    refine r_iload_n dX9_growthWith_9 rfl ?_
    refine c_I (inv_V (mi := mi_X9_growthWith) (b := 35) (rest := []) (X9_overAt_ok_35 G x2 c3 M) rfl (by decide) dX9_growthWith_10 lkm_X9_87 cal_X9_overAt cX_35 rfl rfl (Nat.le_of_ble_eq_true rfl) rfl) ?_
    refine r_letI (fun y2 => ?_)
    refine r_istore (lv' := [some (.ref (G.2.2.2 (35))), some (.ref (G.2.2.2 (a1))), some (.int x2), some (.int c3), some (.int y2), none, none]) dX9_growthWith_13 (Nat.le_of_ble_eq_true rfl) rfl rfl ?_
    refine r_iload_n dX9_growthWith_15 rfl ?_
    refine r_iconst (x := 1) dX9_growthWith_16 rfl ?_
    refine r_isub dX9_growthWith_17 ?_
    refine r_istore (lv' := [some (.ref (G.2.2.2 (35))), some (.ref (G.2.2.2 (a1))), some (.int x2), some (.int c3), some (.int y2), some (.int (x2 - 1)), none]) dX9_growthWith_18 (Nat.le_of_ble_eq_true rfl) rfl rfl ?_
    refine r_jB1 (j := 68) (lvj := fun e8 => [some (.ref (G.2.2.2 (35))), some (.ref (G.2.2.2 (a1))), some (.int x2), some (.int c3), some (.int e8), none, none]) (stj := fun e8 => []) (Mj := fun e8 => M) (fun e8 => ?_) (fun hj68 => ?_)
    · refine r_aload_n dX9_growthWith_68 rfl ?_
      refine r_getf (v := .ref (G.2.2.2 (35 + 2))) dX9_growthWith_69 fX_35_2 kX9 (by decide) lkf_X9_17 rfl ?_
      refine r_iconst (x := 0) dX9_growthWith_72 rfl ?_
      refine r_iload_n dX9_growthWith_73 rfl ?_
      refine r_iadd dX9_growthWith_74 ?_
      refine r_iload dX9_growthWith_75 rfl ?_
      refine c_V (inv_SN (mi := mi_X9_growthWith) (rest := []) (X11_put_ok G aX_37p (0 + c3) e8 M) rfl (by decide) dX9_growthWith_77 lkm_X9_27 cal_X11_put rfl (Nat.le_of_ble_eq_true rfl) rfl) (fun M9 => ?_)
      refine r_iinc (y := c3 + 1) (lv' := [some (.ref (G.2.2.2 (35))), some (.ref (G.2.2.2 (a1))), some (.int x2), some (.int (c3 + 1)), some (.int e8), none, none]) dX9_growthWith_80 rfl rfl (Nat.le_of_ble_eq_true rfl) rfl rfl ?_
      refine r_goto (tgt := 2) dX9_growthWith_83 rfl ?_
      exact r_lk (ih (c3 + 1) M9) (And.intro rfl (And.intro rfl (And.intro rfl (And.intro rfl True.intro))))
    exact r_lk (X9_growthWith_L2_ok_35 G ha1 x2 c3 M (by exact hs) hj68 zFU y2 (x2 - 1)) (And.intro rfl (And.intro rfl (And.intro rfl (And.intro rfl (And.intro rfl (And.intro rfl True.intro))))))
set_option maxRecDepth 100000 in
set_option maxHeartbeats 4000000 in
theorem X9_growthWith_ok_35 (G : Gh) {a1 : Nat} (ha1 : zar zTX a1 = some (0, zlen zTX a1)) (x2 : Int32) (M : Mem) : Mt G mi_X9_growthWith [.ref (G.2.2.2 (35)), .ref (G.2.2.2 (a1)), .int x2] M ((dO dIM) (X9_growthWith 35 a1 x2 M)) := by
  refine Mt_of (lv := [some (.ref (G.2.2.2 (35))), some (.ref (G.2.2.2 (a1))), some (.int x2)]) (by decide) rfl (Nat.le_of_ble_eq_true rfl) rfl ?_
  refine r_le (lv' := [some (.ref (G.2.2.2 (35))), some (.ref (G.2.2.2 (a1))), some (.int x2), none, none, none, none]) (And.intro rfl (And.intro rfl (And.intro rfl True.intro))) ?_
  unfold X9_growthWith
  refine r_iconst (x := 0) dX9_growthWith_0 rfl ?_
  refine r_istore_n (lv' := [some (.ref (G.2.2.2 (35))), some (.ref (G.2.2.2 (a1))), some (.int x2), some (.int 0), none, none, none]) dX9_growthWith_1 (Nat.le_of_ble_eq_true rfl) rfl rfl ?_
  refine r_jB1 (j := 86) (lvj := fun M10 => [some (.ref (G.2.2.2 (35))), none, some (.int x2), none, none, none, none]) (stj := fun M10 => []) (Mj := fun M10 => M10) (fun M10 => ?_) (fun hj86 => ?_)
  · refine r_aload_n dX9_growthWith_86 rfl ?_
    refine r_getf (v := .ref (G.2.2.2 (35 + 2))) dX9_growthWith_87 fX_35_2 kX9 (by decide) lkf_X9_17 rfl ?_
    refine r_iconst (x := 3) dX9_growthWith_90 rfl ?_
    refine r_aload_n dX9_growthWith_91 rfl ?_
    refine r_iload_n dX9_growthWith_92 rfl ?_
    refine c_I (inv_V (mi := mi_X9_growthWith) (b := 35) (rest := [.int 3, .ref (G.2.2.2 (35 + 2))]) (X9_cropOf_ok_35 G x2 M10) rfl (by decide) dX9_growthWith_93 lkm_X9_97 cal_X9_cropOf cX_35 rfl rfl (Nat.le_of_ble_eq_true rfl) rfl) ?_
    refine c_V (inv_SN (mi := mi_X9_growthWith) (rest := []) (X11_put_ok G aX_37p 3 (X9_cropOf 35 x2 M10) M10) rfl (by decide) dX9_growthWith_96 lkm_X9_27 cal_X11_put rfl (Nat.le_of_ble_eq_true rfl) rfl) (fun M11 => ?_)
    refine r_aload_n dX9_growthWith_99 rfl ?_
    refine r_getf (v := .ref (G.2.2.2 (35 + 2))) dX9_growthWith_100 fX_35_2 kX9 (by decide) lkf_X9_17 rfl ?_
    refine r_iconst (x := 4) dX9_growthWith_103 rfl ?_
    refine r_aload_n dX9_growthWith_104 rfl ?_
    refine c_I (inv_V (mi := mi_X9_growthWith) (b := 35) (rest := [.int 4, .ref (G.2.2.2 (35 + 2))]) (X9_weekNow_ok_35 G M11) rfl (by decide) dX9_growthWith_105 lkm_X9_100 cal_X9_weekNow cX_35 rfl rfl (Nat.le_of_ble_eq_true rfl) rfl) ?_
    refine c_V (inv_SN (mi := mi_X9_growthWith) (rest := []) (X11_put_ok G aX_37p 4 (X9_weekNow 35 M11) M11) rfl (by decide) dX9_growthWith_108 lkm_X9_27 cal_X11_put rfl (Nat.le_of_ble_eq_true rfl) rfl) (fun M12 => ?_)
    refine r_aload_n dX9_growthWith_111 rfl ?_
    refine r_getf (v := .ref (G.2.2.2 (35 + 2))) dX9_growthWith_112 fX_35_2 kX9 (by decide) lkf_X9_17 rfl ?_
    refine r_iconst (x := 5) dX9_growthWith_115 rfl ?_
    refine r_iload_n dX9_growthWith_116 rfl ?_
    refine c_V (inv_SN (mi := mi_X9_growthWith) (rest := []) (X11_put_ok G aX_37p 5 x2 M12) rfl (by decide) dX9_growthWith_117 lkm_X9_27 cal_X11_put rfl (Nat.le_of_ble_eq_true rfl) rfl) (fun M13 => ?_)
    refine r_aload_n dX9_growthWith_120 rfl ?_
    refine r_getf (v := .ref (G.2.2.2 (23))) dX9_growthWith_121 fX_35_0 kX9 (by decide) lkf_X9_23 rfl ?_
    refine r_getf (v := .ref (G.2.2.2 (32))) dX9_growthWith_124 fX_23_14 kX3 (by decide) lkf_X9_104 rfl ?_
    refine r_aload_n dX9_growthWith_127 rfl ?_
    refine r_getf (v := .ref (G.2.2.2 (35 + 2))) dX9_growthWith_128 fX_35_2 kX9 (by decide) lkf_X9_17 rfl ?_
    refine c_OIM rfl (inv_V (mi := mi_X9_growthWith) (b := 32) (rest := []) (X1_worth_ok_32 G aX_37p M13) rfl (by decide) dX9_growthWith_131 lkm_X9_108 cal_X1_worth cX_32 rfl rfl (Nat.le_of_ble_eq_true rfl) rfl) (fun v14 M15 => ?_)
    refine r_istore_n (lv' := [some (.ref (G.2.2.2 (35))), none, some (.int x2), some (.int v14), none, none, none]) dX9_growthWith_134 (Nat.le_of_ble_eq_true rfl) rfl rfl ?_
    refine r_bipush (x := (-20)) dX9_growthWith_135 rfl ?_
    refine r_bipush (x := 20) dX9_growthWith_137 rfl ?_
    refine r_iload_n dX9_growthWith_139 rfl ?_
    refine r_min dX9_growthWith_140 lkm_X9_74 tw_mmin1 tw_m2 tw_mmin3 (by decide) (Nat.le_of_ble_eq_true rfl) ?_
    refine r_max dX9_growthWith_143 lkm_X9_112 tw_mmax1 tw_m2 tw_mmax3 (by decide) (Nat.le_of_ble_eq_true rfl) ?_
    exact r_iret (ty := .int) dX9_growthWith_146 rfl rfl rfl
  exact r_lk (X9_growthWith_L1_ok_35 G ha1 x2 rfl hj86 zFU 0 M) (And.intro rfl (And.intro rfl (And.intro rfl (And.intro rfl True.intro))))
set_option maxRecDepth 100000 in
set_option maxHeartbeats 4000000 in
theorem X9_growthWith_L2_ok_42 (G : Gh) {a1 : Nat} (ha1 : zar zTX a1 = some (0, zlen zTX a1)) (x2 : Int32) (c3 : Int32) (M : Mem) {dn : Option (Int32) → Option (Option Value × Mem)} (hs : dn none = none) (hx : ∀ (e8 : Int32), Wr G mi_X9_growthWith dn 68 [some (.ref (G.2.2.2 (42))), some (.ref (G.2.2.2 (a1))), some (.int x2), some (.int c3), some (.int e8), none, none] [] M (some e8)) : ∀ (n : Nat) (c4 : Int32) (c5 : Int32), Wr G mi_X9_growthWith dn 20 [some (.ref (G.2.2.2 (42))), some (.ref (G.2.2.2 (a1))), some (.int x2), some (.int c3), some (.int c4), some (.int c5), none] [] M (X9_growthWith_L2 a1 x2 c3 M n c4 c5) := by
  intro n
  induction n with
  | zero => intro c4 c5; exact r_none (by exact hs)
  | succ n ih =>
    intro c4 c5
    rw [X9_growthWith_L2]
    refine r_iload dX9_growthWith_20 rfl ?_
    refine r_iload_n dX9_growthWith_22 rfl ?_
    refine r_iconst (x := 1) dX9_growthWith_23 rfl ?_
    refine r_iadd dX9_growthWith_24 ?_
    refine r_icmp_gt (tgt := 68) dX9_growthWith_25 rfl (fun h3 => ?_) (fun h3 => ?_)
    · exact r_lk (hx c4) (And.intro rfl (And.intro rfl (And.intro rfl (And.intro rfl (And.intro rfl True.intro)))))
    refine r_aload_n dX9_growthWith_28 rfl ?_
    refine r_iload dX9_growthWith_29 rfl ?_
    refine r_iconst (x := 3) dX9_growthWith_31 rfl ?_
    refine r_imul dX9_growthWith_32 ?_
    refine r_iload_n dX9_growthWith_33 rfl ?_
    refine r_iadd dX9_growthWith_34 ?_
    refine c_I (inv_SN (mi := mi_X9_growthWith) (rest := []) (X11_cell_ok G ha1 ((c5 * 3) + c3) M) rfl (by decide) dX9_growthWith_35 lkm_X9_36 cal_X11_cell rfl (Nat.le_of_ble_eq_true rfl) rfl) ?_
    refine r_letI (fun y4 => ?_)
    refine r_istore (lv' := [some (.ref (G.2.2.2 (42))), some (.ref (G.2.2.2 (a1))), some (.int x2), some (.int c3), some (.int c4), some (.int c5), some (.int y4)]) dX9_growthWith_38 (Nat.le_of_ble_eq_true rfl) rfl rfl ?_
    refine r_iload dX9_growthWith_40 rfl ?_
    refine r_jL1 (j := 62) (lvj := fun y7 => [some (.ref (G.2.2.2 (42))), some (.ref (G.2.2.2 (a1))), some (.int x2), some (.int c3), some (.int y7), some (.int c5), none]) (stj := fun y7 => []) (Mj := fun y7 => M) (fun y7 => ?_) (fun hj62 => ?_)
    · refine r_iinc (y := c5 + 1) (lv' := [some (.ref (G.2.2.2 (42))), some (.ref (G.2.2.2 (a1))), some (.int x2), some (.int c3), some (.int y7), some (.int (c5 + 1)), none]) dX9_growthWith_62 rfl rfl (Nat.le_of_ble_eq_true rfl) rfl rfl ?_
      refine r_goto (tgt := 20) dX9_growthWith_65 rfl ?_
      exact r_lk (ih y7 (c5 + 1)) (And.intro rfl (And.intro rfl (And.intro rfl (And.intro rfl (And.intro rfl (And.intro rfl True.intro))))))
    refine r_if_le (tgt := 62) dX9_growthWith_42 rfl (fun h5 => ?_) (fun h5 => ?_)
    · exact r_lk (hj62 c4) (And.intro rfl (And.intro rfl (And.intro rfl (And.intro rfl (And.intro rfl (And.intro rfl True.intro))))))
    refine r_iload dX9_growthWith_45 rfl ?_
    refine r_aload_n dX9_growthWith_47 rfl ?_
    refine r_getf (v := .ref (G.2.2.2 (23))) dX9_growthWith_48 fX_42_0 kX9 (by decide) lkf_X9_23 rfl ?_
    refine r_iload dX9_growthWith_51 rfl ?_
    refine r_iload_n dX9_growthWith_53 rfl ?_
    refine r_iload dX9_growthWith_54 rfl ?_
    refine c_I (inv_V (mi := mi_X9_growthWith) (b := 23) (rest := [.int c4]) (X3_reach_ok_23 G c5 x2 y4 M) rfl (by decide) dX9_growthWith_56 lkm_X9_90 cal_X3_reach cX_23 rfl rfl (Nat.le_of_ble_eq_true rfl) rfl) ?_
    refine r_iadd dX9_growthWith_59 ?_
    refine r_letI (fun y6 => ?_)
    refine r_istore (lv' := [some (.ref (G.2.2.2 (42))), some (.ref (G.2.2.2 (a1))), some (.int x2), some (.int c3), some (.int y6), some (.int c5), some (.int y4)]) dX9_growthWith_60 (Nat.le_of_ble_eq_true rfl) rfl rfl ?_
    exact r_lk (hj62 y6) (And.intro rfl (And.intro rfl (And.intro rfl (And.intro rfl (And.intro rfl (And.intro rfl True.intro))))))
set_option maxRecDepth 100000 in
set_option maxHeartbeats 4000000 in
theorem X9_growthWith_L1_ok_42 (G : Gh) {a1 : Nat} (ha1 : zar zTX a1 = some (0, zlen zTX a1)) (x2 : Int32) {dn : Option (Mem) → Option (Option Value × Mem)} (hs : dn none = none) (hx : ∀ (M10 : Mem), Wr G mi_X9_growthWith dn 86 [some (.ref (G.2.2.2 (42))), none, some (.int x2), none, none, none, none] [] M10 (some M10)) : ∀ (n : Nat) (c3 : Int32) (M : Mem), Wr G mi_X9_growthWith dn 2 [some (.ref (G.2.2.2 (42))), some (.ref (G.2.2.2 (a1))), some (.int x2), some (.int c3), none, none, none] [] M (X9_growthWith_L1 42 a1 x2 n c3 M) := by
  intro n
  induction n with
  | zero => intro c3 M; exact r_none (by exact hs)
  | succ n ih =>
    intro c3 M
    rw [X9_growthWith_L1]
    refine r_iload_n dX9_growthWith_2 rfl ?_
    refine r_iconst (x := 3) dX9_growthWith_3 rfl ?_
    refine r_icmp_ge (tgt := 86) dX9_growthWith_4 rfl (fun h1 => ?_) (fun h1 => ?_)
    · exact r_lk (hx M) (And.intro rfl (And.intro rfl True.intro))
    refine r_aload_n dX9_growthWith_7 rfl ?_
    refine r_iload_n dX9_growthWith_8 rfl ?_
    refine r_iload_n dX9_growthWith_9 rfl ?_
    refine c_I (inv_V (mi := mi_X9_growthWith) (b := 42) (rest := []) (X9_overAt_ok_42 G x2 c3 M) rfl (by decide) dX9_growthWith_10 lkm_X9_87 cal_X9_overAt cX_42 rfl rfl (Nat.le_of_ble_eq_true rfl) rfl) ?_
    refine r_letI (fun y2 => ?_)
    refine r_istore (lv' := [some (.ref (G.2.2.2 (42))), some (.ref (G.2.2.2 (a1))), some (.int x2), some (.int c3), some (.int y2), none, none]) dX9_growthWith_13 (Nat.le_of_ble_eq_true rfl) rfl rfl ?_
    refine r_iload_n dX9_growthWith_15 rfl ?_
    refine r_iconst (x := 1) dX9_growthWith_16 rfl ?_
    refine r_isub dX9_growthWith_17 ?_
    refine r_istore (lv' := [some (.ref (G.2.2.2 (42))), some (.ref (G.2.2.2 (a1))), some (.int x2), some (.int c3), some (.int y2), some (.int (x2 - 1)), none]) dX9_growthWith_18 (Nat.le_of_ble_eq_true rfl) rfl rfl ?_
    refine r_jB1 (j := 68) (lvj := fun e8 => [some (.ref (G.2.2.2 (42))), some (.ref (G.2.2.2 (a1))), some (.int x2), some (.int c3), some (.int e8), none, none]) (stj := fun e8 => []) (Mj := fun e8 => M) (fun e8 => ?_) (fun hj68 => ?_)
    · refine r_aload_n dX9_growthWith_68 rfl ?_
      refine r_getf (v := .ref (G.2.2.2 (42 + 2))) dX9_growthWith_69 fX_42_2 kX9 (by decide) lkf_X9_17 rfl ?_
      refine r_iconst (x := 0) dX9_growthWith_72 rfl ?_
      refine r_iload_n dX9_growthWith_73 rfl ?_
      refine r_iadd dX9_growthWith_74 ?_
      refine r_iload dX9_growthWith_75 rfl ?_
      refine c_V (inv_SN (mi := mi_X9_growthWith) (rest := []) (X11_put_ok G aX_44p (0 + c3) e8 M) rfl (by decide) dX9_growthWith_77 lkm_X9_27 cal_X11_put rfl (Nat.le_of_ble_eq_true rfl) rfl) (fun M9 => ?_)
      refine r_iinc (y := c3 + 1) (lv' := [some (.ref (G.2.2.2 (42))), some (.ref (G.2.2.2 (a1))), some (.int x2), some (.int (c3 + 1)), some (.int e8), none, none]) dX9_growthWith_80 rfl rfl (Nat.le_of_ble_eq_true rfl) rfl rfl ?_
      refine r_goto (tgt := 2) dX9_growthWith_83 rfl ?_
      exact r_lk (ih (c3 + 1) M9) (And.intro rfl (And.intro rfl (And.intro rfl (And.intro rfl True.intro))))
    exact r_lk (X9_growthWith_L2_ok_42 G ha1 x2 c3 M (by exact hs) hj68 zFU y2 (x2 - 1)) (And.intro rfl (And.intro rfl (And.intro rfl (And.intro rfl (And.intro rfl (And.intro rfl True.intro))))))
set_option maxRecDepth 100000 in
set_option maxHeartbeats 4000000 in
theorem X9_growthWith_ok_42 (G : Gh) {a1 : Nat} (ha1 : zar zTX a1 = some (0, zlen zTX a1)) (x2 : Int32) (M : Mem) : Mt G mi_X9_growthWith [.ref (G.2.2.2 (42)), .ref (G.2.2.2 (a1)), .int x2] M ((dO dIM) (X9_growthWith 42 a1 x2 M)) := by
  refine Mt_of (lv := [some (.ref (G.2.2.2 (42))), some (.ref (G.2.2.2 (a1))), some (.int x2)]) (by decide) rfl (Nat.le_of_ble_eq_true rfl) rfl ?_
  refine r_le (lv' := [some (.ref (G.2.2.2 (42))), some (.ref (G.2.2.2 (a1))), some (.int x2), none, none, none, none]) (And.intro rfl (And.intro rfl (And.intro rfl True.intro))) ?_
  unfold X9_growthWith
  refine r_iconst (x := 0) dX9_growthWith_0 rfl ?_
  refine r_istore_n (lv' := [some (.ref (G.2.2.2 (42))), some (.ref (G.2.2.2 (a1))), some (.int x2), some (.int 0), none, none, none]) dX9_growthWith_1 (Nat.le_of_ble_eq_true rfl) rfl rfl ?_
  refine r_jB1 (j := 86) (lvj := fun M10 => [some (.ref (G.2.2.2 (42))), none, some (.int x2), none, none, none, none]) (stj := fun M10 => []) (Mj := fun M10 => M10) (fun M10 => ?_) (fun hj86 => ?_)
  · refine r_aload_n dX9_growthWith_86 rfl ?_
    refine r_getf (v := .ref (G.2.2.2 (42 + 2))) dX9_growthWith_87 fX_42_2 kX9 (by decide) lkf_X9_17 rfl ?_
    refine r_iconst (x := 3) dX9_growthWith_90 rfl ?_
    refine r_aload_n dX9_growthWith_91 rfl ?_
    refine r_iload_n dX9_growthWith_92 rfl ?_
    refine c_I (inv_V (mi := mi_X9_growthWith) (b := 42) (rest := [.int 3, .ref (G.2.2.2 (42 + 2))]) (X9_cropOf_ok_42 G x2 M10) rfl (by decide) dX9_growthWith_93 lkm_X9_97 cal_X9_cropOf cX_42 rfl rfl (Nat.le_of_ble_eq_true rfl) rfl) ?_
    refine c_V (inv_SN (mi := mi_X9_growthWith) (rest := []) (X11_put_ok G aX_44p 3 (X9_cropOf 42 x2 M10) M10) rfl (by decide) dX9_growthWith_96 lkm_X9_27 cal_X11_put rfl (Nat.le_of_ble_eq_true rfl) rfl) (fun M11 => ?_)
    refine r_aload_n dX9_growthWith_99 rfl ?_
    refine r_getf (v := .ref (G.2.2.2 (42 + 2))) dX9_growthWith_100 fX_42_2 kX9 (by decide) lkf_X9_17 rfl ?_
    refine r_iconst (x := 4) dX9_growthWith_103 rfl ?_
    refine r_aload_n dX9_growthWith_104 rfl ?_
    refine c_I (inv_V (mi := mi_X9_growthWith) (b := 42) (rest := [.int 4, .ref (G.2.2.2 (42 + 2))]) (X9_weekNow_ok_42 G M11) rfl (by decide) dX9_growthWith_105 lkm_X9_100 cal_X9_weekNow cX_42 rfl rfl (Nat.le_of_ble_eq_true rfl) rfl) ?_
    refine c_V (inv_SN (mi := mi_X9_growthWith) (rest := []) (X11_put_ok G aX_44p 4 (X9_weekNow 42 M11) M11) rfl (by decide) dX9_growthWith_108 lkm_X9_27 cal_X11_put rfl (Nat.le_of_ble_eq_true rfl) rfl) (fun M12 => ?_)
    refine r_aload_n dX9_growthWith_111 rfl ?_
    refine r_getf (v := .ref (G.2.2.2 (42 + 2))) dX9_growthWith_112 fX_42_2 kX9 (by decide) lkf_X9_17 rfl ?_
    refine r_iconst (x := 5) dX9_growthWith_115 rfl ?_
    refine r_iload_n dX9_growthWith_116 rfl ?_
    refine c_V (inv_SN (mi := mi_X9_growthWith) (rest := []) (X11_put_ok G aX_44p 5 x2 M12) rfl (by decide) dX9_growthWith_117 lkm_X9_27 cal_X11_put rfl (Nat.le_of_ble_eq_true rfl) rfl) (fun M13 => ?_)
    refine r_aload_n dX9_growthWith_120 rfl ?_
    refine r_getf (v := .ref (G.2.2.2 (23))) dX9_growthWith_121 fX_42_0 kX9 (by decide) lkf_X9_23 rfl ?_
    refine r_getf (v := .ref (G.2.2.2 (32))) dX9_growthWith_124 fX_23_14 kX3 (by decide) lkf_X9_104 rfl ?_
    refine r_aload_n dX9_growthWith_127 rfl ?_
    refine r_getf (v := .ref (G.2.2.2 (42 + 2))) dX9_growthWith_128 fX_42_2 kX9 (by decide) lkf_X9_17 rfl ?_
    refine c_OIM rfl (inv_V (mi := mi_X9_growthWith) (b := 32) (rest := []) (X1_worth_ok_32 G aX_44p M13) rfl (by decide) dX9_growthWith_131 lkm_X9_108 cal_X1_worth cX_32 rfl rfl (Nat.le_of_ble_eq_true rfl) rfl) (fun v14 M15 => ?_)
    refine r_istore_n (lv' := [some (.ref (G.2.2.2 (42))), none, some (.int x2), some (.int v14), none, none, none]) dX9_growthWith_134 (Nat.le_of_ble_eq_true rfl) rfl rfl ?_
    refine r_bipush (x := (-20)) dX9_growthWith_135 rfl ?_
    refine r_bipush (x := 20) dX9_growthWith_137 rfl ?_
    refine r_iload_n dX9_growthWith_139 rfl ?_
    refine r_min dX9_growthWith_140 lkm_X9_74 tw_mmin1 tw_m2 tw_mmin3 (by decide) (Nat.le_of_ble_eq_true rfl) ?_
    refine r_max dX9_growthWith_143 lkm_X9_112 tw_mmax1 tw_m2 tw_mmax3 (by decide) (Nat.le_of_ble_eq_true rfl) ?_
    exact r_iret (ty := .int) dX9_growthWith_146 rfl rfl rfl
  exact r_lk (X9_growthWith_L1_ok_42 G ha1 x2 rfl hj86 zFU 0 M) (And.intro rfl (And.intro rfl (And.intro rfl (And.intro rfl True.intro))))

theorem dX9_growthOf_0 : decode cX9_growthOf 0 = .ok (.aload_n 0, 1) := by decide +kernel
theorem dX9_growthOf_1 : decode cX9_growthOf 1 = .ok (.aload_n 0, 1) := by decide +kernel
theorem dX9_growthOf_2 : decode cX9_growthOf 2 = .ok (.getfield 20, 3) := by decide +kernel
theorem dX9_growthOf_5 : decode cX9_growthOf 5 = .ok (.iload_n 1, 1) := by decide +kernel
theorem dX9_growthOf_6 : decode cX9_growthOf 6 = .ok (.invokevirtual 94, 3) := by decide +kernel
theorem dX9_growthOf_9 : decode cX9_growthOf 9 = .ok (.ireturn, 1) := by decide +kernel
abbrev mi_X9_growthOf : MI := (zTX, RX9, yX9_growthOf, cX9_growthOf, 2, (some .int), 10)
theorem cal_X9_growthOf : zCalV mi_X9_growthOf 1 := ⟨⟨zTB_i4 75 (by decide +kernel), zTB_i4 73 (by decide +kernel), zTB_i4 74 (by decide +kernel), zTB_i1 8 (by decide +kernel)⟩, ⟨by decide, by decide, by decide +kernel⟩, by decide⟩
noncomputable def X9_growthOf (o0 : Nat) (x1 : Int32) (M : Mem) : Option (Int32 × Mem) :=
  bp_ (X9_growthWith o0 (o0 + 3) x1 M) fun v1 M2 =>
  some (v1, M2)
set_option maxRecDepth 100000 in
set_option maxHeartbeats 4000000 in
theorem X9_growthOf_ok_35 (G : Gh) (x1 : Int32) (M : Mem) : Mt G mi_X9_growthOf [.ref (G.2.2.2 (35)), .int x1] M ((dO dIM) (X9_growthOf 35 x1 M)) := by
  refine Mt_of (lv := [some (.ref (G.2.2.2 (35))), some (.int x1)]) (by decide) rfl (Nat.le_of_ble_eq_true rfl) rfl ?_
  unfold X9_growthOf
  refine r_aload_n dX9_growthOf_0 rfl ?_
  refine r_aload_n dX9_growthOf_1 rfl ?_
  refine r_getf (v := .ref (G.2.2.2 (35 + 3))) dX9_growthOf_2 fX_35_3 kX9 (by decide) lkf_X9_20 rfl ?_
  refine r_iload_n dX9_growthOf_5 rfl ?_
  refine c_OIM rfl (inv_V (mi := mi_X9_growthOf) (b := 35) (rest := []) (X9_growthWith_ok_35 G aX_38p x1 M) rfl (by decide) dX9_growthOf_6 lkm_X9_94 cal_X9_growthWith cX_35 rfl rfl (Nat.le_of_ble_eq_true rfl) rfl) (fun v1 M2 => ?_)
  exact r_iret (ty := .int) dX9_growthOf_9 rfl rfl rfl
set_option maxRecDepth 100000 in
set_option maxHeartbeats 4000000 in
theorem X9_growthOf_ok_42 (G : Gh) (x1 : Int32) (M : Mem) : Mt G mi_X9_growthOf [.ref (G.2.2.2 (42)), .int x1] M ((dO dIM) (X9_growthOf 42 x1 M)) := by
  refine Mt_of (lv := [some (.ref (G.2.2.2 (42))), some (.int x1)]) (by decide) rfl (Nat.le_of_ble_eq_true rfl) rfl ?_
  unfold X9_growthOf
  refine r_aload_n dX9_growthOf_0 rfl ?_
  refine r_aload_n dX9_growthOf_1 rfl ?_
  refine r_getf (v := .ref (G.2.2.2 (42 + 3))) dX9_growthOf_2 fX_42_3 kX9 (by decide) lkf_X9_20 rfl ?_
  refine r_iload_n dX9_growthOf_5 rfl ?_
  refine c_OIM rfl (inv_V (mi := mi_X9_growthOf) (b := 42) (rest := []) (X9_growthWith_ok_42 G aX_45p x1 M) rfl (by decide) dX9_growthOf_6 lkm_X9_94 cal_X9_growthWith cX_42 rfl rfl (Nat.le_of_ble_eq_true rfl) rfl) (fun v1 M2 => ?_)
  exact r_iret (ty := .int) dX9_growthOf_9 rfl rfl rfl

theorem dX9_purseOf_0 : decode cX9_purseOf 0 = .ok (.aload_n 0, 1) := by decide +kernel
theorem dX9_purseOf_1 : decode cX9_purseOf 1 = .ok (.getfield 11, 3) := by decide +kernel
theorem dX9_purseOf_4 : decode cX9_purseOf 4 = .ok (.iload_n 1, 1) := by decide +kernel
theorem dX9_purseOf_5 : decode cX9_purseOf 5 = .ok (.iconst 3, 1) := by decide +kernel
theorem dX9_purseOf_6 : decode cX9_purseOf 6 = .ok (.imul, 1) := by decide +kernel
theorem dX9_purseOf_7 : decode cX9_purseOf 7 = .ok (.iload_n 2, 1) := by decide +kernel
theorem dX9_purseOf_8 : decode cX9_purseOf 8 = .ok (.iadd, 1) := by decide +kernel
theorem dX9_purseOf_9 : decode cX9_purseOf 9 = .ok (.invokestatic 36, 3) := by decide +kernel
theorem dX9_purseOf_12 : decode cX9_purseOf 12 = .ok (.ireturn, 1) := by decide +kernel
abbrev mi_X9_purseOf : MI := (zTX, RX9, yX9_purseOf, cX9_purseOf, 3, (some .int), 3)
theorem cal_X9_purseOf : zCalV mi_X9_purseOf 2 := ⟨⟨zTB_i4 114 (by decide +kernel), zTB_i4 112 (by decide +kernel), zTB_i4 113 (by decide +kernel), zTB_i1 8 (by decide +kernel)⟩, ⟨by decide, by decide, by decide +kernel⟩, by decide⟩
noncomputable def X9_purseOf (o0 : Nat) (x1 : Int32) (x2 : Int32) (M : Mem) : Int32 :=
  (X11_cell (o0 + 1) ((x1 * 3) + x2) M)
set_option maxRecDepth 100000 in
set_option maxHeartbeats 4000000 in
theorem X9_purseOf_ok_35 (G : Gh) (x1 : Int32) (x2 : Int32) (M : Mem) : Mt G mi_X9_purseOf [.ref (G.2.2.2 (35)), .int x1, .int x2] M ((dI M) (X9_purseOf 35 x1 x2 M)) := by
  refine Mt_of (lv := [some (.ref (G.2.2.2 (35))), some (.int x1), some (.int x2)]) (by decide) rfl (Nat.le_of_ble_eq_true rfl) rfl ?_
  unfold X9_purseOf
  refine r_aload_n dX9_purseOf_0 rfl ?_
  refine r_getf (v := .ref (G.2.2.2 (35 + 1))) dX9_purseOf_1 fX_35_1 kX9 (by decide) lkf_X9_11 rfl ?_
  refine r_iload_n dX9_purseOf_4 rfl ?_
  refine r_iconst (x := 3) dX9_purseOf_5 rfl ?_
  refine r_imul dX9_purseOf_6 ?_
  refine r_iload_n dX9_purseOf_7 rfl ?_
  refine r_iadd dX9_purseOf_8 ?_
  refine c_I (inv_SN (mi := mi_X9_purseOf) (rest := []) (X11_cell_ok G aX_36p ((x1 * 3) + x2) M) rfl (by decide) dX9_purseOf_9 lkm_X9_36 cal_X11_cell rfl (Nat.le_of_ble_eq_true rfl) rfl) ?_
  exact r_iret (ty := .int) dX9_purseOf_12 rfl rfl rfl
set_option maxRecDepth 100000 in
set_option maxHeartbeats 4000000 in
theorem X9_purseOf_ok_42 (G : Gh) (x1 : Int32) (x2 : Int32) (M : Mem) : Mt G mi_X9_purseOf [.ref (G.2.2.2 (42)), .int x1, .int x2] M ((dI M) (X9_purseOf 42 x1 x2 M)) := by
  refine Mt_of (lv := [some (.ref (G.2.2.2 (42))), some (.int x1), some (.int x2)]) (by decide) rfl (Nat.le_of_ble_eq_true rfl) rfl ?_
  unfold X9_purseOf
  refine r_aload_n dX9_purseOf_0 rfl ?_
  refine r_getf (v := .ref (G.2.2.2 (42 + 1))) dX9_purseOf_1 fX_42_1 kX9 (by decide) lkf_X9_11 rfl ?_
  refine r_iload_n dX9_purseOf_4 rfl ?_
  refine r_iconst (x := 3) dX9_purseOf_5 rfl ?_
  refine r_imul dX9_purseOf_6 ?_
  refine r_iload_n dX9_purseOf_7 rfl ?_
  refine r_iadd dX9_purseOf_8 ?_
  refine c_I (inv_SN (mi := mi_X9_purseOf) (rest := []) (X11_cell_ok G aX_43p ((x1 * 3) + x2) M) rfl (by decide) dX9_purseOf_9 lkm_X9_36 cal_X11_cell rfl (Nat.le_of_ble_eq_true rfl) rfl) ?_
  exact r_iret (ty := .int) dX9_purseOf_12 rfl rfl rfl

theorem dX9_purseSum_0 : decode cX9_purseSum 0 = .ok (.iconst 0, 1) := by decide +kernel
theorem dX9_purseSum_1 : decode cX9_purseSum 1 = .ok (.istore_n 2, 1) := by decide +kernel
theorem dX9_purseSum_2 : decode cX9_purseSum 2 = .ok (.iconst 0, 1) := by decide +kernel
theorem dX9_purseSum_3 : decode cX9_purseSum 3 = .ok (.istore_n 3, 1) := by decide +kernel
theorem dX9_purseSum_4 : decode cX9_purseSum 4 = .ok (.iload_n 3, 1) := by decide +kernel
theorem dX9_purseSum_5 : decode cX9_purseSum 5 = .ok (.aload_n 0, 1) := by decide +kernel
theorem dX9_purseSum_6 : decode cX9_purseSum 6 = .ok (.getfield 23, 3) := by decide +kernel
theorem dX9_purseSum_9 : decode cX9_purseSum 9 = .ok (.getfield 67, 3) := by decide +kernel
theorem dX9_purseSum_12 : decode cX9_purseSum 12 = .ok (.if_icmp .ge 18, 3) := by decide +kernel
theorem dX9_purseSum_15 : decode cX9_purseSum 15 = .ok (.iload_n 2, 1) := by decide +kernel
theorem dX9_purseSum_16 : decode cX9_purseSum 16 = .ok (.aload_n 0, 1) := by decide +kernel
theorem dX9_purseSum_17 : decode cX9_purseSum 17 = .ok (.iload_n 1, 1) := by decide +kernel
theorem dX9_purseSum_18 : decode cX9_purseSum 18 = .ok (.iload_n 3, 1) := by decide +kernel
theorem dX9_purseSum_19 : decode cX9_purseSum 19 = .ok (.invokevirtual 70, 3) := by decide +kernel
theorem dX9_purseSum_22 : decode cX9_purseSum 22 = .ok (.iadd, 1) := by decide +kernel
theorem dX9_purseSum_23 : decode cX9_purseSum 23 = .ok (.istore_n 2, 1) := by decide +kernel
theorem dX9_purseSum_24 : decode cX9_purseSum 24 = .ok (.iinc 3 1, 3) := by decide +kernel
theorem dX9_purseSum_27 : decode cX9_purseSum 27 = .ok (.goto (-23), 3) := by decide +kernel
theorem dX9_purseSum_30 : decode cX9_purseSum 30 = .ok (.iload_n 2, 1) := by decide +kernel
theorem dX9_purseSum_31 : decode cX9_purseSum 31 = .ok (.ireturn, 1) := by decide +kernel
abbrev mi_X9_purseSum : MI := (zTX, RX9, yX9_purseSum, cX9_purseSum, 4, (some .int), 4)
theorem cal_X9_purseSum : zCalV mi_X9_purseSum 1 := ⟨⟨zTB_i4 110 (by decide +kernel), zTB_i4 108 (by decide +kernel), zTB_i4 109 (by decide +kernel), zTB_i1 8 (by decide +kernel)⟩, ⟨by decide, by decide, by decide +kernel⟩, by decide⟩
noncomputable def X9_purseSum_L1 (o0 : Nat) (x1 : Int32) (M : Mem) : Nat → Int32 → Int32 → Option (Int32)
  | 0, _, _ => none
  | n + 1, c2, c3 =>
    if (M.1 23 1) ≤ c3 then
      some c2
    else
    lt_ (α := Int32) (c2 + (X9_purseOf o0 x1 c3 M)) fun y2 =>
    X9_purseSum_L1 o0 x1 M n y2 (c3 + 1)
noncomputable def X9_purseSum (o0 : Nat) (x1 : Int32) (M : Mem) : Option (Int32) :=
  b1_ (α := Int32) (X9_purseSum_L1 o0 x1 M zFU 0 0) fun e3 =>
  some e3
set_option maxRecDepth 100000 in
set_option maxHeartbeats 4000000 in
theorem X9_purseSum_L1_ok_35 (G : Gh) (x1 : Int32) (M : Mem) {dn : Option (Int32) → Option (Option Value × Mem)} (hs : dn none = none) (hx : ∀ (e3 : Int32), Wr G mi_X9_purseSum dn 30 [none, none, some (.int e3), none] [] M (some e3)) : ∀ (n : Nat) (c2 : Int32) (c3 : Int32), Wr G mi_X9_purseSum dn 4 [some (.ref (G.2.2.2 (35))), some (.int x1), some (.int c2), some (.int c3)] [] M (X9_purseSum_L1 35 x1 M n c2 c3) := by
  intro n
  induction n with
  | zero => intro c2 c3; exact r_none (by exact hs)
  | succ n ih =>
    intro c2 c3
    rw [X9_purseSum_L1]
    refine r_iload_n dX9_purseSum_4 rfl ?_
    refine r_aload_n dX9_purseSum_5 rfl ?_
    refine r_getf (v := .ref (G.2.2.2 (23))) dX9_purseSum_6 fX_35_0 kX9 (by decide) lkf_X9_23 rfl ?_
    refine r_getf (v := .int (M.1 23 1)) dX9_purseSum_9 fX_23_1 kX3 (by decide) lkf_X9_67 rfl ?_
    refine r_icmp_ge (tgt := 30) dX9_purseSum_12 rfl (fun h1 => ?_) (fun h1 => ?_)
    · exact r_lk (hx c2) (And.intro rfl True.intro)
    refine r_iload_n dX9_purseSum_15 rfl ?_
    refine r_aload_n dX9_purseSum_16 rfl ?_
    refine r_iload_n dX9_purseSum_17 rfl ?_
    refine r_iload_n dX9_purseSum_18 rfl ?_
    refine c_I (inv_V (mi := mi_X9_purseSum) (b := 35) (rest := [.int c2]) (X9_purseOf_ok_35 G x1 c3 M) rfl (by decide) dX9_purseSum_19 lkm_X9_70 cal_X9_purseOf cX_35 rfl rfl (Nat.le_of_ble_eq_true rfl) rfl) ?_
    refine r_iadd dX9_purseSum_22 ?_
    refine r_letI (fun y2 => ?_)
    refine r_istore_n (lv' := [some (.ref (G.2.2.2 (35))), some (.int x1), some (.int y2), some (.int c3)]) dX9_purseSum_23 (Nat.le_of_ble_eq_true rfl) rfl rfl ?_
    refine r_iinc (y := c3 + 1) (lv' := [some (.ref (G.2.2.2 (35))), some (.int x1), some (.int y2), some (.int (c3 + 1))]) dX9_purseSum_24 rfl rfl (Nat.le_of_ble_eq_true rfl) rfl rfl ?_
    refine r_goto (tgt := 4) dX9_purseSum_27 rfl ?_
    exact r_lk (ih y2 (c3 + 1)) (And.intro rfl (And.intro rfl (And.intro rfl (And.intro rfl True.intro))))
set_option maxRecDepth 100000 in
set_option maxHeartbeats 4000000 in
theorem X9_purseSum_ok_35 (G : Gh) (x1 : Int32) (M : Mem) : Mt G mi_X9_purseSum [.ref (G.2.2.2 (35)), .int x1] M ((dO (dI M)) (X9_purseSum 35 x1 M)) := by
  refine Mt_of (lv := [some (.ref (G.2.2.2 (35))), some (.int x1)]) (by decide) rfl (Nat.le_of_ble_eq_true rfl) rfl ?_
  refine r_le (lv' := [some (.ref (G.2.2.2 (35))), some (.int x1), none, none]) (And.intro rfl (And.intro rfl True.intro)) ?_
  unfold X9_purseSum
  refine r_iconst (x := 0) dX9_purseSum_0 rfl ?_
  refine r_istore_n (lv' := [some (.ref (G.2.2.2 (35))), some (.int x1), some (.int 0), none]) dX9_purseSum_1 (Nat.le_of_ble_eq_true rfl) rfl rfl ?_
  refine r_iconst (x := 0) dX9_purseSum_2 rfl ?_
  refine r_istore_n (lv' := [some (.ref (G.2.2.2 (35))), some (.int x1), some (.int 0), some (.int 0)]) dX9_purseSum_3 (Nat.le_of_ble_eq_true rfl) rfl rfl ?_
  refine r_jB1 (j := 30) (lvj := fun e3 => [none, none, some (.int e3), none]) (stj := fun e3 => []) (Mj := fun e3 => M) (fun e3 => ?_) (fun hj30 => ?_)
  · refine r_iload_n dX9_purseSum_30 rfl ?_
    exact r_iret (ty := .int) dX9_purseSum_31 rfl rfl rfl
  exact r_lk (X9_purseSum_L1_ok_35 G x1 M rfl hj30 zFU 0 0) (And.intro rfl (And.intro rfl (And.intro rfl (And.intro rfl True.intro))))
set_option maxRecDepth 100000 in
set_option maxHeartbeats 4000000 in
theorem X9_purseSum_L1_ok_42 (G : Gh) (x1 : Int32) (M : Mem) {dn : Option (Int32) → Option (Option Value × Mem)} (hs : dn none = none) (hx : ∀ (e3 : Int32), Wr G mi_X9_purseSum dn 30 [none, none, some (.int e3), none] [] M (some e3)) : ∀ (n : Nat) (c2 : Int32) (c3 : Int32), Wr G mi_X9_purseSum dn 4 [some (.ref (G.2.2.2 (42))), some (.int x1), some (.int c2), some (.int c3)] [] M (X9_purseSum_L1 42 x1 M n c2 c3) := by
  intro n
  induction n with
  | zero => intro c2 c3; exact r_none (by exact hs)
  | succ n ih =>
    intro c2 c3
    rw [X9_purseSum_L1]
    refine r_iload_n dX9_purseSum_4 rfl ?_
    refine r_aload_n dX9_purseSum_5 rfl ?_
    refine r_getf (v := .ref (G.2.2.2 (23))) dX9_purseSum_6 fX_42_0 kX9 (by decide) lkf_X9_23 rfl ?_
    refine r_getf (v := .int (M.1 23 1)) dX9_purseSum_9 fX_23_1 kX3 (by decide) lkf_X9_67 rfl ?_
    refine r_icmp_ge (tgt := 30) dX9_purseSum_12 rfl (fun h1 => ?_) (fun h1 => ?_)
    · exact r_lk (hx c2) (And.intro rfl True.intro)
    refine r_iload_n dX9_purseSum_15 rfl ?_
    refine r_aload_n dX9_purseSum_16 rfl ?_
    refine r_iload_n dX9_purseSum_17 rfl ?_
    refine r_iload_n dX9_purseSum_18 rfl ?_
    refine c_I (inv_V (mi := mi_X9_purseSum) (b := 42) (rest := [.int c2]) (X9_purseOf_ok_42 G x1 c3 M) rfl (by decide) dX9_purseSum_19 lkm_X9_70 cal_X9_purseOf cX_42 rfl rfl (Nat.le_of_ble_eq_true rfl) rfl) ?_
    refine r_iadd dX9_purseSum_22 ?_
    refine r_letI (fun y2 => ?_)
    refine r_istore_n (lv' := [some (.ref (G.2.2.2 (42))), some (.int x1), some (.int y2), some (.int c3)]) dX9_purseSum_23 (Nat.le_of_ble_eq_true rfl) rfl rfl ?_
    refine r_iinc (y := c3 + 1) (lv' := [some (.ref (G.2.2.2 (42))), some (.int x1), some (.int y2), some (.int (c3 + 1))]) dX9_purseSum_24 rfl rfl (Nat.le_of_ble_eq_true rfl) rfl rfl ?_
    refine r_goto (tgt := 4) dX9_purseSum_27 rfl ?_
    exact r_lk (ih y2 (c3 + 1)) (And.intro rfl (And.intro rfl (And.intro rfl (And.intro rfl True.intro))))
set_option maxRecDepth 100000 in
set_option maxHeartbeats 4000000 in
theorem X9_purseSum_ok_42 (G : Gh) (x1 : Int32) (M : Mem) : Mt G mi_X9_purseSum [.ref (G.2.2.2 (42)), .int x1] M ((dO (dI M)) (X9_purseSum 42 x1 M)) := by
  refine Mt_of (lv := [some (.ref (G.2.2.2 (42))), some (.int x1)]) (by decide) rfl (Nat.le_of_ble_eq_true rfl) rfl ?_
  refine r_le (lv' := [some (.ref (G.2.2.2 (42))), some (.int x1), none, none]) (And.intro rfl (And.intro rfl True.intro)) ?_
  unfold X9_purseSum
  refine r_iconst (x := 0) dX9_purseSum_0 rfl ?_
  refine r_istore_n (lv' := [some (.ref (G.2.2.2 (42))), some (.int x1), some (.int 0), none]) dX9_purseSum_1 (Nat.le_of_ble_eq_true rfl) rfl rfl ?_
  refine r_iconst (x := 0) dX9_purseSum_2 rfl ?_
  refine r_istore_n (lv' := [some (.ref (G.2.2.2 (42))), some (.int x1), some (.int 0), some (.int 0)]) dX9_purseSum_3 (Nat.le_of_ble_eq_true rfl) rfl rfl ?_
  refine r_jB1 (j := 30) (lvj := fun e3 => [none, none, some (.int e3), none]) (stj := fun e3 => []) (Mj := fun e3 => M) (fun e3 => ?_) (fun hj30 => ?_)
  · refine r_iload_n dX9_purseSum_30 rfl ?_
    exact r_iret (ty := .int) dX9_purseSum_31 rfl rfl rfl
  exact r_lk (X9_purseSum_L1_ok_42 G x1 M rfl hj30 zFU 0 0) (And.intro rfl (And.intro rfl (And.intro rfl (And.intro rfl True.intro))))

theorem dX3_wageOf_0 : decode cX3_wageOf 0 = .ok (.aload_n 0, 1) := by decide +kernel
theorem dX3_wageOf_1 : decode cX3_wageOf 1 = .ok (.getfield 24, 3) := by decide +kernel
theorem dX3_wageOf_4 : decode cX3_wageOf 4 = .ok (.iload_n 1, 1) := by decide +kernel
theorem dX3_wageOf_5 : decode cX3_wageOf 5 = .ok (.iconst 3, 1) := by decide +kernel
theorem dX3_wageOf_6 : decode cX3_wageOf 6 = .ok (.imul, 1) := by decide +kernel
theorem dX3_wageOf_7 : decode cX3_wageOf 7 = .ok (.iload_n 2, 1) := by decide +kernel
theorem dX3_wageOf_8 : decode cX3_wageOf 8 = .ok (.iadd, 1) := by decide +kernel
theorem dX3_wageOf_9 : decode cX3_wageOf 9 = .ok (.invokestatic 94, 3) := by decide +kernel
theorem dX3_wageOf_12 : decode cX3_wageOf 12 = .ok (.ireturn, 1) := by decide +kernel
abbrev mi_X3_wageOf : MI := (zTX, RX3, yX3_wageOf, cX3_wageOf, 3, (some .int), 3)
theorem cal_X3_wageOf : zCalV mi_X3_wageOf 2 := ⟨⟨zTB_i4 122 (by decide +kernel), zTB_i4 120 (by decide +kernel), zTB_i4 121 (by decide +kernel), zTB_i1 4 (by decide +kernel)⟩, ⟨by decide, by decide, by decide +kernel⟩, by decide⟩
noncomputable def X3_wageOf (o0 : Nat) (x1 : Int32) (x2 : Int32) (M : Mem) : Int32 :=
  (X11_cell (o0 + 5) ((x1 * 3) + x2) M)
set_option maxRecDepth 100000 in
set_option maxHeartbeats 4000000 in
theorem X3_wageOf_ok_4 (G : Gh) (x1 : Int32) (x2 : Int32) (M : Mem) : Mt G mi_X3_wageOf [.ref (G.2.2.2 (4)), .int x1, .int x2] M ((dI M) (X3_wageOf 4 x1 x2 M)) := by
  refine Mt_of (lv := [some (.ref (G.2.2.2 (4))), some (.int x1), some (.int x2)]) (by decide) rfl (Nat.le_of_ble_eq_true rfl) rfl ?_
  unfold X3_wageOf
  refine r_aload_n dX3_wageOf_0 rfl ?_
  refine r_getf (v := .ref (G.2.2.2 (4 + 5))) dX3_wageOf_1 fX_4_10 kX3 (by decide) lkf_X3_24 rfl ?_
  refine r_iload_n dX3_wageOf_4 rfl ?_
  refine r_iconst (x := 3) dX3_wageOf_5 rfl ?_
  refine r_imul dX3_wageOf_6 ?_
  refine r_iload_n dX3_wageOf_7 rfl ?_
  refine r_iadd dX3_wageOf_8 ?_
  refine c_I (inv_SN (mi := mi_X3_wageOf) (rest := []) (X11_cell_ok G aX_9p ((x1 * 3) + x2) M) rfl (by decide) dX3_wageOf_9 lkm_X3_94 cal_X11_cell rfl (Nat.le_of_ble_eq_true rfl) rfl) ?_
  exact r_iret (ty := .int) dX3_wageOf_12 rfl rfl rfl
set_option maxRecDepth 100000 in
set_option maxHeartbeats 4000000 in
theorem X3_wageOf_ok_23 (G : Gh) (x1 : Int32) (x2 : Int32) (M : Mem) : Mt G mi_X3_wageOf [.ref (G.2.2.2 (23)), .int x1, .int x2] M ((dI M) (X3_wageOf 23 x1 x2 M)) := by
  refine Mt_of (lv := [some (.ref (G.2.2.2 (23))), some (.int x1), some (.int x2)]) (by decide) rfl (Nat.le_of_ble_eq_true rfl) rfl ?_
  unfold X3_wageOf
  refine r_aload_n dX3_wageOf_0 rfl ?_
  refine r_getf (v := .ref (G.2.2.2 (23 + 5))) dX3_wageOf_1 fX_23_10 kX3 (by decide) lkf_X3_24 rfl ?_
  refine r_iload_n dX3_wageOf_4 rfl ?_
  refine r_iconst (x := 3) dX3_wageOf_5 rfl ?_
  refine r_imul dX3_wageOf_6 ?_
  refine r_iload_n dX3_wageOf_7 rfl ?_
  refine r_iadd dX3_wageOf_8 ?_
  refine c_I (inv_SN (mi := mi_X3_wageOf) (rest := []) (X11_cell_ok G aX_28p ((x1 * 3) + x2) M) rfl (by decide) dX3_wageOf_9 lkm_X3_94 cal_X11_cell rfl (Nat.le_of_ble_eq_true rfl) rfl) ?_
  exact r_iret (ty := .int) dX3_wageOf_12 rfl rfl rfl

theorem dX3_wageSum_0 : decode cX3_wageSum 0 = .ok (.iconst 0, 1) := by decide +kernel
theorem dX3_wageSum_1 : decode cX3_wageSum 1 = .ok (.istore_n 2, 1) := by decide +kernel
theorem dX3_wageSum_2 : decode cX3_wageSum 2 = .ok (.iconst 0, 1) := by decide +kernel
theorem dX3_wageSum_3 : decode cX3_wageSum 3 = .ok (.istore_n 3, 1) := by decide +kernel
theorem dX3_wageSum_4 : decode cX3_wageSum 4 = .ok (.iload_n 3, 1) := by decide +kernel
theorem dX3_wageSum_5 : decode cX3_wageSum 5 = .ok (.aload_n 0, 1) := by decide +kernel
theorem dX3_wageSum_6 : decode cX3_wageSum 6 = .ok (.getfield 50, 3) := by decide +kernel
theorem dX3_wageSum_9 : decode cX3_wageSum 9 = .ok (.if_icmp .ge 18, 3) := by decide +kernel
theorem dX3_wageSum_12 : decode cX3_wageSum 12 = .ok (.iload_n 2, 1) := by decide +kernel
theorem dX3_wageSum_13 : decode cX3_wageSum 13 = .ok (.aload_n 0, 1) := by decide +kernel
theorem dX3_wageSum_14 : decode cX3_wageSum 14 = .ok (.iload_n 1, 1) := by decide +kernel
theorem dX3_wageSum_15 : decode cX3_wageSum 15 = .ok (.iload_n 3, 1) := by decide +kernel
theorem dX3_wageSum_16 : decode cX3_wageSum 16 = .ok (.invokevirtual 98, 3) := by decide +kernel
theorem dX3_wageSum_19 : decode cX3_wageSum 19 = .ok (.iadd, 1) := by decide +kernel
theorem dX3_wageSum_20 : decode cX3_wageSum 20 = .ok (.istore_n 2, 1) := by decide +kernel
theorem dX3_wageSum_21 : decode cX3_wageSum 21 = .ok (.iinc 3 1, 3) := by decide +kernel
theorem dX3_wageSum_24 : decode cX3_wageSum 24 = .ok (.goto (-20), 3) := by decide +kernel
theorem dX3_wageSum_27 : decode cX3_wageSum 27 = .ok (.iload_n 2, 1) := by decide +kernel
theorem dX3_wageSum_28 : decode cX3_wageSum 28 = .ok (.ireturn, 1) := by decide +kernel
abbrev mi_X3_wageSum : MI := (zTX, RX3, yX3_wageSum, cX3_wageSum, 4, (some .int), 4)
theorem cal_X3_wageSum : zCalV mi_X3_wageSum 1 := ⟨⟨zTB_i4 118 (by decide +kernel), zTB_i4 116 (by decide +kernel), zTB_i4 117 (by decide +kernel), zTB_i1 4 (by decide +kernel)⟩, ⟨by decide, by decide, by decide +kernel⟩, by decide⟩
noncomputable def X3_wageSum_L1 (o0 : Nat) (x1 : Int32) (M : Mem) : Nat → Int32 → Int32 → Option (Int32)
  | 0, _, _ => none
  | n + 1, c2, c3 =>
    if (M.1 o0 1) ≤ c3 then
      some c2
    else
    lt_ (α := Int32) (c2 + (X3_wageOf o0 x1 c3 M)) fun y2 =>
    X3_wageSum_L1 o0 x1 M n y2 (c3 + 1)
noncomputable def X3_wageSum (o0 : Nat) (x1 : Int32) (M : Mem) : Option (Int32) :=
  b1_ (α := Int32) (X3_wageSum_L1 o0 x1 M zFU 0 0) fun e3 =>
  some e3
set_option maxRecDepth 100000 in
set_option maxHeartbeats 4000000 in
theorem X3_wageSum_L1_ok_4 (G : Gh) (x1 : Int32) (M : Mem) {dn : Option (Int32) → Option (Option Value × Mem)} (hs : dn none = none) (hx : ∀ (e3 : Int32), Wr G mi_X3_wageSum dn 27 [none, none, some (.int e3), none] [] M (some e3)) : ∀ (n : Nat) (c2 : Int32) (c3 : Int32), Wr G mi_X3_wageSum dn 4 [some (.ref (G.2.2.2 (4))), some (.int x1), some (.int c2), some (.int c3)] [] M (X3_wageSum_L1 4 x1 M n c2 c3) := by
  intro n
  induction n with
  | zero => intro c2 c3; exact r_none (by exact hs)
  | succ n ih =>
    intro c2 c3
    rw [X3_wageSum_L1]
    refine r_iload_n dX3_wageSum_4 rfl ?_
    refine r_aload_n dX3_wageSum_5 rfl ?_
    refine r_getf (v := .int (M.1 4 1)) dX3_wageSum_6 fX_4_1 kX3 (by decide) lkf_X3_50 rfl ?_
    refine r_icmp_ge (tgt := 27) dX3_wageSum_9 rfl (fun h1 => ?_) (fun h1 => ?_)
    · exact r_lk (hx c2) (And.intro rfl True.intro)
    refine r_iload_n dX3_wageSum_12 rfl ?_
    refine r_aload_n dX3_wageSum_13 rfl ?_
    refine r_iload_n dX3_wageSum_14 rfl ?_
    refine r_iload_n dX3_wageSum_15 rfl ?_
    refine c_I (inv_V (mi := mi_X3_wageSum) (b := 4) (rest := [.int c2]) (X3_wageOf_ok_4 G x1 c3 M) rfl (by decide) dX3_wageSum_16 lkm_X3_98 cal_X3_wageOf cX_4 rfl rfl (Nat.le_of_ble_eq_true rfl) rfl) ?_
    refine r_iadd dX3_wageSum_19 ?_
    refine r_letI (fun y2 => ?_)
    refine r_istore_n (lv' := [some (.ref (G.2.2.2 (4))), some (.int x1), some (.int y2), some (.int c3)]) dX3_wageSum_20 (Nat.le_of_ble_eq_true rfl) rfl rfl ?_
    refine r_iinc (y := c3 + 1) (lv' := [some (.ref (G.2.2.2 (4))), some (.int x1), some (.int y2), some (.int (c3 + 1))]) dX3_wageSum_21 rfl rfl (Nat.le_of_ble_eq_true rfl) rfl rfl ?_
    refine r_goto (tgt := 4) dX3_wageSum_24 rfl ?_
    exact r_lk (ih y2 (c3 + 1)) (And.intro rfl (And.intro rfl (And.intro rfl (And.intro rfl True.intro))))
set_option maxRecDepth 100000 in
set_option maxHeartbeats 4000000 in
theorem X3_wageSum_ok_4 (G : Gh) (x1 : Int32) (M : Mem) : Mt G mi_X3_wageSum [.ref (G.2.2.2 (4)), .int x1] M ((dO (dI M)) (X3_wageSum 4 x1 M)) := by
  refine Mt_of (lv := [some (.ref (G.2.2.2 (4))), some (.int x1)]) (by decide) rfl (Nat.le_of_ble_eq_true rfl) rfl ?_
  refine r_le (lv' := [some (.ref (G.2.2.2 (4))), some (.int x1), none, none]) (And.intro rfl (And.intro rfl True.intro)) ?_
  unfold X3_wageSum
  refine r_iconst (x := 0) dX3_wageSum_0 rfl ?_
  refine r_istore_n (lv' := [some (.ref (G.2.2.2 (4))), some (.int x1), some (.int 0), none]) dX3_wageSum_1 (Nat.le_of_ble_eq_true rfl) rfl rfl ?_
  refine r_iconst (x := 0) dX3_wageSum_2 rfl ?_
  refine r_istore_n (lv' := [some (.ref (G.2.2.2 (4))), some (.int x1), some (.int 0), some (.int 0)]) dX3_wageSum_3 (Nat.le_of_ble_eq_true rfl) rfl rfl ?_
  refine r_jB1 (j := 27) (lvj := fun e3 => [none, none, some (.int e3), none]) (stj := fun e3 => []) (Mj := fun e3 => M) (fun e3 => ?_) (fun hj27 => ?_)
  · refine r_iload_n dX3_wageSum_27 rfl ?_
    exact r_iret (ty := .int) dX3_wageSum_28 rfl rfl rfl
  exact r_lk (X3_wageSum_L1_ok_4 G x1 M rfl hj27 zFU 0 0) (And.intro rfl (And.intro rfl (And.intro rfl (And.intro rfl True.intro))))
set_option maxRecDepth 100000 in
set_option maxHeartbeats 4000000 in
theorem X3_wageSum_L1_ok_23 (G : Gh) (x1 : Int32) (M : Mem) {dn : Option (Int32) → Option (Option Value × Mem)} (hs : dn none = none) (hx : ∀ (e3 : Int32), Wr G mi_X3_wageSum dn 27 [none, none, some (.int e3), none] [] M (some e3)) : ∀ (n : Nat) (c2 : Int32) (c3 : Int32), Wr G mi_X3_wageSum dn 4 [some (.ref (G.2.2.2 (23))), some (.int x1), some (.int c2), some (.int c3)] [] M (X3_wageSum_L1 23 x1 M n c2 c3) := by
  intro n
  induction n with
  | zero => intro c2 c3; exact r_none (by exact hs)
  | succ n ih =>
    intro c2 c3
    rw [X3_wageSum_L1]
    refine r_iload_n dX3_wageSum_4 rfl ?_
    refine r_aload_n dX3_wageSum_5 rfl ?_
    refine r_getf (v := .int (M.1 23 1)) dX3_wageSum_6 fX_23_1 kX3 (by decide) lkf_X3_50 rfl ?_
    refine r_icmp_ge (tgt := 27) dX3_wageSum_9 rfl (fun h1 => ?_) (fun h1 => ?_)
    · exact r_lk (hx c2) (And.intro rfl True.intro)
    refine r_iload_n dX3_wageSum_12 rfl ?_
    refine r_aload_n dX3_wageSum_13 rfl ?_
    refine r_iload_n dX3_wageSum_14 rfl ?_
    refine r_iload_n dX3_wageSum_15 rfl ?_
    refine c_I (inv_V (mi := mi_X3_wageSum) (b := 23) (rest := [.int c2]) (X3_wageOf_ok_23 G x1 c3 M) rfl (by decide) dX3_wageSum_16 lkm_X3_98 cal_X3_wageOf cX_23 rfl rfl (Nat.le_of_ble_eq_true rfl) rfl) ?_
    refine r_iadd dX3_wageSum_19 ?_
    refine r_letI (fun y2 => ?_)
    refine r_istore_n (lv' := [some (.ref (G.2.2.2 (23))), some (.int x1), some (.int y2), some (.int c3)]) dX3_wageSum_20 (Nat.le_of_ble_eq_true rfl) rfl rfl ?_
    refine r_iinc (y := c3 + 1) (lv' := [some (.ref (G.2.2.2 (23))), some (.int x1), some (.int y2), some (.int (c3 + 1))]) dX3_wageSum_21 rfl rfl (Nat.le_of_ble_eq_true rfl) rfl rfl ?_
    refine r_goto (tgt := 4) dX3_wageSum_24 rfl ?_
    exact r_lk (ih y2 (c3 + 1)) (And.intro rfl (And.intro rfl (And.intro rfl (And.intro rfl True.intro))))
set_option maxRecDepth 100000 in
set_option maxHeartbeats 4000000 in
theorem X3_wageSum_ok_23 (G : Gh) (x1 : Int32) (M : Mem) : Mt G mi_X3_wageSum [.ref (G.2.2.2 (23)), .int x1] M ((dO (dI M)) (X3_wageSum 23 x1 M)) := by
  refine Mt_of (lv := [some (.ref (G.2.2.2 (23))), some (.int x1)]) (by decide) rfl (Nat.le_of_ble_eq_true rfl) rfl ?_
  refine r_le (lv' := [some (.ref (G.2.2.2 (23))), some (.int x1), none, none]) (And.intro rfl (And.intro rfl True.intro)) ?_
  unfold X3_wageSum
  refine r_iconst (x := 0) dX3_wageSum_0 rfl ?_
  refine r_istore_n (lv' := [some (.ref (G.2.2.2 (23))), some (.int x1), some (.int 0), none]) dX3_wageSum_1 (Nat.le_of_ble_eq_true rfl) rfl rfl ?_
  refine r_iconst (x := 0) dX3_wageSum_2 rfl ?_
  refine r_istore_n (lv' := [some (.ref (G.2.2.2 (23))), some (.int x1), some (.int 0), some (.int 0)]) dX3_wageSum_3 (Nat.le_of_ble_eq_true rfl) rfl rfl ?_
  refine r_jB1 (j := 27) (lvj := fun e3 => [none, none, some (.int e3), none]) (stj := fun e3 => []) (Mj := fun e3 => M) (fun e3 => ?_) (fun hj27 => ?_)
  · refine r_iload_n dX3_wageSum_27 rfl ?_
    exact r_iret (ty := .int) dX3_wageSum_28 rfl rfl rfl
  exact r_lk (X3_wageSum_L1_ok_23 G x1 M rfl hj27 zFU 0 0) (And.intro rfl (And.intro rfl (And.intro rfl (And.intro rfl True.intro))))

theorem dX3_isLoose_0 : decode cX3_isLoose 0 = .ok (.aload_n 0, 1) := by decide +kernel
theorem dX3_isLoose_1 : decode cX3_isLoose 1 = .ok (.getfield 15, 3) := by decide +kernel
theorem dX3_isLoose_4 : decode cX3_isLoose 4 = .ok (.iload_n 1, 1) := by decide +kernel
theorem dX3_isLoose_5 : decode cX3_isLoose 5 = .ok (.invokestatic 94, 3) := by decide +kernel
theorem dX3_isLoose_8 : decode cX3_isLoose 8 = .ok (.ifCond .eq 7, 3) := by decide +kernel
theorem dX3_isLoose_11 : decode cX3_isLoose 11 = .ok (.iconst 1, 1) := by decide +kernel
theorem dX3_isLoose_12 : decode cX3_isLoose 12 = .ok (.goto 4, 3) := by decide +kernel
theorem dX3_isLoose_15 : decode cX3_isLoose 15 = .ok (.iconst 0, 1) := by decide +kernel
theorem dX3_isLoose_16 : decode cX3_isLoose 16 = .ok (.ireturn, 1) := by decide +kernel
abbrev mi_X3_isLoose : MI := (zTX, RX3, yX3_isLoose, cX3_isLoose, 2, (some .boolean), 3)
theorem cal_X3_isLoose : zCalV mi_X3_isLoose 1 := ⟨⟨zTB_i4 127 (by decide +kernel), zTB_i4 125 (by decide +kernel), zTB_i4 126 (by decide +kernel), zTB_i1 4 (by decide +kernel)⟩, ⟨by decide, by decide, by decide +kernel⟩, by decide⟩
noncomputable def X3_isLoose (o0 : Nat) (x1 : Int32) (M : Mem) : Bool :=
  if (X11_cell (o0 + 2) x1 M) = 0 then
    false
  else
  true
set_option maxRecDepth 100000 in
set_option maxHeartbeats 4000000 in
theorem X3_isLoose_ok_4 (G : Gh) (x1 : Int32) (M : Mem) : Mt G mi_X3_isLoose [.ref (G.2.2.2 (4)), .int x1] M ((dZ M) (X3_isLoose 4 x1 M)) := by
  refine Mt_of (lv := [some (.ref (G.2.2.2 (4))), some (.int x1)]) (by decide) rfl (Nat.le_of_ble_eq_true rfl) rfl ?_
  unfold X3_isLoose
  refine r_aload_n dX3_isLoose_0 rfl ?_
  refine r_getf (v := .ref (G.2.2.2 (4 + 2))) dX3_isLoose_1 fX_4_7 kX3 (by decide) lkf_X3_15 rfl ?_
  refine r_iload_n dX3_isLoose_4 rfl ?_
  refine c_I (inv_SN (mi := mi_X3_isLoose) (rest := []) (X11_cell_ok G aX_6p x1 M) rfl (by decide) dX3_isLoose_5 lkm_X3_94 cal_X11_cell rfl (Nat.le_of_ble_eq_true rfl) rfl) ?_
  refine r_if_eq (tgt := 15) dX3_isLoose_8 rfl (fun h1 => ?_) (fun h1 => ?_)
  · refine r_iconst (x := 0) dX3_isLoose_15 rfl ?_
    exact r_iret (ty := .boolean) dX3_isLoose_16 rfl rfl rfl
  refine r_iconst (x := 1) dX3_isLoose_11 rfl ?_
  refine r_goto (tgt := 16) dX3_isLoose_12 rfl ?_
  exact r_iret (ty := .boolean) dX3_isLoose_16 rfl rfl rfl
set_option maxRecDepth 100000 in
set_option maxHeartbeats 4000000 in
theorem X3_isLoose_ok_23 (G : Gh) (x1 : Int32) (M : Mem) : Mt G mi_X3_isLoose [.ref (G.2.2.2 (23)), .int x1] M ((dZ M) (X3_isLoose 23 x1 M)) := by
  refine Mt_of (lv := [some (.ref (G.2.2.2 (23))), some (.int x1)]) (by decide) rfl (Nat.le_of_ble_eq_true rfl) rfl ?_
  unfold X3_isLoose
  refine r_aload_n dX3_isLoose_0 rfl ?_
  refine r_getf (v := .ref (G.2.2.2 (23 + 2))) dX3_isLoose_1 fX_23_7 kX3 (by decide) lkf_X3_15 rfl ?_
  refine r_iload_n dX3_isLoose_4 rfl ?_
  refine c_I (inv_SN (mi := mi_X3_isLoose) (rest := []) (X11_cell_ok G aX_25p x1 M) rfl (by decide) dX3_isLoose_5 lkm_X3_94 cal_X11_cell rfl (Nat.le_of_ble_eq_true rfl) rfl) ?_
  refine r_if_eq (tgt := 15) dX3_isLoose_8 rfl (fun h1 => ?_) (fun h1 => ?_)
  · refine r_iconst (x := 0) dX3_isLoose_15 rfl ?_
    exact r_iret (ty := .boolean) dX3_isLoose_16 rfl rfl rfl
  refine r_iconst (x := 1) dX3_isLoose_11 rfl ?_
  refine r_goto (tgt := 16) dX3_isLoose_12 rfl ?_
  exact r_iret (ty := .boolean) dX3_isLoose_16 rfl rfl rfl

theorem dX11_man_0 : decode cX11_man 0 = .ok (.aload_n 0, 1) := by decide +kernel
theorem dX11_man_1 : decode cX11_man 1 = .ok (.getfield 28, 3) := by decide +kernel
theorem dX11_man_4 : decode cX11_man 4 = .ok (.iload_n 1, 1) := by decide +kernel
theorem dX11_man_5 : decode cX11_man 5 = .ok (.invokevirtual 119, 3) := by decide +kernel
theorem dX11_man_8 : decode cX11_man 8 = .ok (.ifCond .ne 6, 3) := by decide +kernel
theorem dX11_man_11 : decode cX11_man 11 = .ok (.ldc 123, 2) := by decide +kernel
theorem dX11_man_13 : decode cX11_man 13 = .ok (.ireturn, 1) := by decide +kernel
theorem dX11_man_14 : decode cX11_man 14 = .ok (.iload_n 2, 1) := by decide +kernel
theorem dX11_man_15 : decode cX11_man 15 = .ok (.tableswitch 115 0 6 #[41, 50, 59, 68, 77, 86, 98], 41) := by decide +kernel
theorem dX11_man_56 : decode cX11_man 56 = .ok (.aload_n 0, 1) := by decide +kernel
theorem dX11_man_57 : decode cX11_man 57 = .ok (.getfield 37, 3) := by decide +kernel
theorem dX11_man_60 : decode cX11_man 60 = .ok (.iload_n 1, 1) := by decide +kernel
theorem dX11_man_61 : decode cX11_man 61 = .ok (.invokevirtual 124, 3) := by decide +kernel
theorem dX11_man_64 : decode cX11_man 64 = .ok (.ireturn, 1) := by decide +kernel
theorem dX11_man_65 : decode cX11_man 65 = .ok (.aload_n 0, 1) := by decide +kernel
theorem dX11_man_66 : decode cX11_man 66 = .ok (.getfield 37, 3) := by decide +kernel
theorem dX11_man_69 : decode cX11_man 69 = .ok (.iload_n 1, 1) := by decide +kernel
theorem dX11_man_70 : decode cX11_man 70 = .ok (.invokevirtual 128, 3) := by decide +kernel
theorem dX11_man_73 : decode cX11_man 73 = .ok (.ireturn, 1) := by decide +kernel
theorem dX11_man_74 : decode cX11_man 74 = .ok (.aload_n 0, 1) := by decide +kernel
theorem dX11_man_75 : decode cX11_man 75 = .ok (.getfield 37, 3) := by decide +kernel
theorem dX11_man_78 : decode cX11_man 78 = .ok (.iload_n 1, 1) := by decide +kernel
theorem dX11_man_79 : decode cX11_man 79 = .ok (.invokevirtual 131, 3) := by decide +kernel
theorem dX11_man_82 : decode cX11_man 82 = .ok (.ireturn, 1) := by decide +kernel
theorem dX11_man_83 : decode cX11_man 83 = .ok (.aload_n 0, 1) := by decide +kernel
theorem dX11_man_84 : decode cX11_man 84 = .ok (.getfield 37, 3) := by decide +kernel
theorem dX11_man_87 : decode cX11_man 87 = .ok (.iload_n 1, 1) := by decide +kernel
theorem dX11_man_88 : decode cX11_man 88 = .ok (.invokevirtual 134, 3) := by decide +kernel
theorem dX11_man_91 : decode cX11_man 91 = .ok (.ireturn, 1) := by decide +kernel
theorem dX11_man_92 : decode cX11_man 92 = .ok (.aload_n 0, 1) := by decide +kernel
theorem dX11_man_93 : decode cX11_man 93 = .ok (.getfield 28, 3) := by decide +kernel
theorem dX11_man_96 : decode cX11_man 96 = .ok (.iload_n 1, 1) := by decide +kernel
theorem dX11_man_97 : decode cX11_man 97 = .ok (.invokevirtual 137, 3) := by decide +kernel
theorem dX11_man_100 : decode cX11_man 100 = .ok (.ireturn, 1) := by decide +kernel
theorem dX11_man_101 : decode cX11_man 101 = .ok (.aload_n 0, 1) := by decide +kernel
theorem dX11_man_102 : decode cX11_man 102 = .ok (.getfield 28, 3) := by decide +kernel
theorem dX11_man_105 : decode cX11_man 105 = .ok (.getfield 140, 3) := by decide +kernel
theorem dX11_man_108 : decode cX11_man 108 = .ok (.iload_n 1, 1) := by decide +kernel
theorem dX11_man_109 : decode cX11_man 109 = .ok (.invokestatic 143, 3) := by decide +kernel
theorem dX11_man_112 : decode cX11_man 112 = .ok (.ireturn, 1) := by decide +kernel
theorem dX11_man_113 : decode cX11_man 113 = .ok (.aload_n 0, 1) := by decide +kernel
theorem dX11_man_114 : decode cX11_man 114 = .ok (.getfield 28, 3) := by decide +kernel
theorem dX11_man_117 : decode cX11_man 117 = .ok (.iload_n 1, 1) := by decide +kernel
theorem dX11_man_118 : decode cX11_man 118 = .ok (.invokevirtual 147, 3) := by decide +kernel
theorem dX11_man_121 : decode cX11_man 121 = .ok (.ifCond .eq 7, 3) := by decide +kernel
theorem dX11_man_124 : decode cX11_man 124 = .ok (.iconst 1, 1) := by decide +kernel
theorem dX11_man_125 : decode cX11_man 125 = .ok (.goto 4, 3) := by decide +kernel
theorem dX11_man_128 : decode cX11_man 128 = .ok (.iconst 0, 1) := by decide +kernel
theorem dX11_man_129 : decode cX11_man 129 = .ok (.ireturn, 1) := by decide +kernel
theorem dX11_man_130 : decode cX11_man 130 = .ok (.ldc 123, 2) := by decide +kernel
theorem dX11_man_132 : decode cX11_man 132 = .ok (.ireturn, 1) := by decide +kernel
abbrev mi_X11_man : MI := (zTX, RX11, yX11_man, cX11_man, 3, (some .int), 11)
theorem cal_X11_man : zCalV mi_X11_man 2 := ⟨⟨zTB_i4 58 (by decide +kernel), zTB_i4 56 (by decide +kernel), zTB_i4 57 (by decide +kernel), zTB_i1 1 (by decide +kernel)⟩, ⟨by decide, by decide, by decide +kernel⟩, by decide⟩
noncomputable def X11_man (x1 : Int32) (x2 : Int32) (M : Mem) : Option (Int32 × Mem) :=
  if (X3_hasMan 23 x1 M) = true then
    if x2 = 0 then
      some ((X9_cropOf 35 x1 M), M)
    else
    if x2 = 1 then
      some ((X9_spentBy 35 x1 M), M)
    else
    if x2 = 2 then
      bp_ (X9_growthOf 35 x1 M) fun v5 M6 =>
      some (v5, M6)
    else
    if x2 = 3 then
      bo_ (X9_purseSum 35 x1 M) fun v8 =>
      some (v8, M)
    else
    if x2 = 4 then
      bo_ (X3_wageSum 23 x1 M) fun v10 =>
      some (v10, M)
    else
    if x2 = 5 then
      some ((X11_cell 26 x1 M), M)
    else
    if x2 = 6 then
      if (X3_isLoose 23 x1 M) = true then
        some (1, M)
      else
      some (0, M)
    else
    some ((-1000000), M)
  else
  some ((-1000000), M)
set_option maxRecDepth 100000 in
set_option maxHeartbeats 4000000 in
theorem X11_man_ok (G : Gh) (x1 : Int32) (x2 : Int32) (M : Mem) : Mt G mi_X11_man [.ref (G.2.2.2 (0)), .int x1, .int x2] M ((dO dIM) (X11_man x1 x2 M)) := by
  refine Mt_of (lv := [some (.ref (G.2.2.2 (0))), some (.int x1), some (.int x2)]) (by decide) rfl (Nat.le_of_ble_eq_true rfl) rfl ?_
  unfold X11_man
  refine r_aload_n dX11_man_0 rfl ?_
  refine r_getf (v := .ref (G.2.2.2 (23))) dX11_man_1 fX_0_2 kX11 (by decide) lkf_X11_28 rfl ?_
  refine r_iload_n dX11_man_4 rfl ?_
  refine c_Z (inv_V (mi := mi_X11_man) (b := 23) (rest := []) (X3_hasMan_ok_23 G x1 M) rfl (by decide) dX11_man_5 lkm_X11_119 cal_X3_hasMan cX_23 rfl rfl (Nat.le_of_ble_eq_true rfl) rfl) ?_
  refine r_ifz_ne (tgt := 14) dX11_man_8 rfl (fun h1 => ?_) (fun h1 => ?_)
  · refine r_iload_n dX11_man_14 rfl ?_
    refine r_ite (fun h2 => ?_) (fun h2 => ?_)
    · refine r_tswIn (c := 0) (tgt := 56) dX11_man_15 h2 (by decide) (by decide) rfl rfl ?_
      refine r_aload_n dX11_man_56 rfl ?_
      refine r_getf (v := .ref (G.2.2.2 (35))) dX11_man_57 fX_0_3 kX11 (by decide) lkf_X11_37 rfl ?_
      refine r_iload_n dX11_man_60 rfl ?_
      refine c_I (inv_V (mi := mi_X11_man) (b := 35) (rest := []) (X9_cropOf_ok_35 G x1 M) rfl (by decide) dX11_man_61 lkm_X11_124 cal_X9_cropOf cX_35 rfl rfl (Nat.le_of_ble_eq_true rfl) rfl) ?_
      exact r_iret (ty := .int) dX11_man_64 rfl rfl rfl
    refine r_ite (fun h3 => ?_) (fun h3 => ?_)
    · refine r_tswIn (c := 1) (tgt := 65) dX11_man_15 h3 (by decide) (by decide) rfl rfl ?_
      refine r_aload_n dX11_man_65 rfl ?_
      refine r_getf (v := .ref (G.2.2.2 (35))) dX11_man_66 fX_0_3 kX11 (by decide) lkf_X11_37 rfl ?_
      refine r_iload_n dX11_man_69 rfl ?_
      refine c_I (inv_V (mi := mi_X11_man) (b := 35) (rest := []) (X9_spentBy_ok_35 G x1 M) rfl (by decide) dX11_man_70 lkm_X11_128 cal_X9_spentBy cX_35 rfl rfl (Nat.le_of_ble_eq_true rfl) rfl) ?_
      exact r_iret (ty := .int) dX11_man_73 rfl rfl rfl
    refine r_ite (fun h4 => ?_) (fun h4 => ?_)
    · refine r_tswIn (c := 2) (tgt := 74) dX11_man_15 h4 (by decide) (by decide) rfl rfl ?_
      refine r_aload_n dX11_man_74 rfl ?_
      refine r_getf (v := .ref (G.2.2.2 (35))) dX11_man_75 fX_0_3 kX11 (by decide) lkf_X11_37 rfl ?_
      refine r_iload_n dX11_man_78 rfl ?_
      refine c_OIM rfl (inv_V (mi := mi_X11_man) (b := 35) (rest := []) (X9_growthOf_ok_35 G x1 M) rfl (by decide) dX11_man_79 lkm_X11_131 cal_X9_growthOf cX_35 rfl rfl (Nat.le_of_ble_eq_true rfl) rfl) (fun v5 M6 => ?_)
      exact r_iret (ty := .int) dX11_man_82 rfl rfl rfl
    refine r_ite (fun h7 => ?_) (fun h7 => ?_)
    · refine r_tswIn (c := 3) (tgt := 83) dX11_man_15 h7 (by decide) (by decide) rfl rfl ?_
      refine r_aload_n dX11_man_83 rfl ?_
      refine r_getf (v := .ref (G.2.2.2 (35))) dX11_man_84 fX_0_3 kX11 (by decide) lkf_X11_37 rfl ?_
      refine r_iload_n dX11_man_87 rfl ?_
      refine c_OI rfl (inv_V (mi := mi_X11_man) (b := 35) (rest := []) (X9_purseSum_ok_35 G x1 M) rfl (by decide) dX11_man_88 lkm_X11_134 cal_X9_purseSum cX_35 rfl rfl (Nat.le_of_ble_eq_true rfl) rfl) (fun v8 => ?_)
      exact r_iret (ty := .int) dX11_man_91 rfl rfl rfl
    refine r_ite (fun h9 => ?_) (fun h9 => ?_)
    · refine r_tswIn (c := 4) (tgt := 92) dX11_man_15 h9 (by decide) (by decide) rfl rfl ?_
      refine r_aload_n dX11_man_92 rfl ?_
      refine r_getf (v := .ref (G.2.2.2 (23))) dX11_man_93 fX_0_2 kX11 (by decide) lkf_X11_28 rfl ?_
      refine r_iload_n dX11_man_96 rfl ?_
      refine c_OI rfl (inv_V (mi := mi_X11_man) (b := 23) (rest := []) (X3_wageSum_ok_23 G x1 M) rfl (by decide) dX11_man_97 lkm_X11_137 cal_X3_wageSum cX_23 rfl rfl (Nat.le_of_ble_eq_true rfl) rfl) (fun v10 => ?_)
      exact r_iret (ty := .int) dX11_man_100 rfl rfl rfl
    refine r_ite (fun h11 => ?_) (fun h11 => ?_)
    · refine r_tswIn (c := 5) (tgt := 101) dX11_man_15 h11 (by decide) (by decide) rfl rfl ?_
      refine r_aload_n dX11_man_101 rfl ?_
      refine r_getf (v := .ref (G.2.2.2 (23))) dX11_man_102 fX_0_2 kX11 (by decide) lkf_X11_28 rfl ?_
      refine r_getf (v := .ref (G.2.2.2 (26))) dX11_man_105 fX_23_8 kX3 (by decide) lkf_X11_140 rfl ?_
      refine r_iload_n dX11_man_108 rfl ?_
      refine c_I (inv_S (mi := mi_X11_man) (rest := []) (X11_cell_ok G aX_26p x1 M) rfl (by decide) dX11_man_109 lkm_X11_143 cal_X11_cell rfl (Nat.le_of_ble_eq_true rfl) rfl) ?_
      exact r_iret (ty := .int) dX11_man_112 rfl rfl rfl
    refine r_ite (fun h12 => ?_) (fun h12 => ?_)
    · refine r_tswIn (c := 6) (tgt := 113) dX11_man_15 h12 (by decide) (by decide) rfl rfl ?_
      refine r_aload_n dX11_man_113 rfl ?_
      refine r_getf (v := .ref (G.2.2.2 (23))) dX11_man_114 fX_0_2 kX11 (by decide) lkf_X11_28 rfl ?_
      refine r_iload_n dX11_man_117 rfl ?_
      refine c_Z (inv_V (mi := mi_X11_man) (b := 23) (rest := []) (X3_isLoose_ok_23 G x1 M) rfl (by decide) dX11_man_118 lkm_X11_147 cal_X3_isLoose cX_23 rfl rfl (Nat.le_of_ble_eq_true rfl) rfl) ?_
      refine r_ifz_eq (tgt := 128) dX11_man_121 rfl (fun h13 => ?_) (fun h13 => ?_)
      · refine r_iconst (x := 1) dX11_man_124 rfl ?_
        refine r_goto (tgt := 129) dX11_man_125 rfl ?_
        exact r_iret (ty := .int) dX11_man_129 rfl rfl rfl
      refine r_iconst (x := 0) dX11_man_128 rfl ?_
      exact r_iret (ty := .int) dX11_man_129 rfl rfl rfl
    refine r_tswD (cs := [0, 1, 2, 3, 4, 5, 6]) (tgt := 130) dX11_man_15 (by decide) (fun c hc => by simp only [List.mem_cons, List.not_mem_nil, or_false] at hc; rcases hc with rfl | rfl | rfl | rfl | rfl | rfl | rfl <;> assumption) rfl ?_
    refine r_ldcI (x := (-1000000)) dX11_man_130 lkc_X11_123 ?_
    exact r_iret (ty := .int) dX11_man_132 rfl rfl rfl
  refine r_ldcI (x := (-1000000)) dX11_man_11 lkc_X11_123 ?_
  exact r_iret (ty := .int) dX11_man_13 rfl rfl rfl

