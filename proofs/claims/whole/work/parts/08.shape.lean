theorem zTB_of {w : Cond} {x : Bool} (h : w ∈ lw_tbl) (h2 : (x && goodWord w) = true) : w ∈ zTB := List.mem_filter.mpr ⟨h, (Bool.and_eq_true _ _ |>.mp h2).2⟩
theorem zTB_i0 {w : Cond} (i : Nat) (h : (decide ((k2_sels lw_privs)[i]? = some w) && goodWord w) = true) : w ∈ zTB := zTB_of (by simp only [lw_tbl, tables_1, List.mem_append]; rw [Bool.and_eq_true, decide_eq_true_eq] at h; have q := List.mem_of_getElem? h.1; simp [q]) h
theorem zTB_i1 {w : Cond} (i : Nat) (h : (decide (tables_1_1[i]? = some w) && goodWord w) = true) : w ∈ zTB := zTB_of (by simp only [lw_tbl, tables_1, List.mem_append]; rw [Bool.and_eq_true, decide_eq_true_eq] at h; have q := List.mem_of_getElem? h.1; simp [q]) h
theorem zTB_i2 {w : Cond} (i : Nat) (h : (decide (tables_1_2[i]? = some w) && goodWord w) = true) : w ∈ zTB := zTB_of (by simp only [lw_tbl, tables_1, List.mem_append]; rw [Bool.and_eq_true, decide_eq_true_eq] at h; have q := List.mem_of_getElem? h.1; simp [q]) h
theorem zTB_i3 {w : Cond} (i : Nat) (h : (decide (tables_1_3[i]? = some w) && goodWord w) = true) : w ∈ zTB := zTB_of (by simp only [lw_tbl, tables_1, List.mem_append]; rw [Bool.and_eq_true, decide_eq_true_eq] at h; have q := List.mem_of_getElem? h.1; simp [q]) h
theorem zTB_i4 {w : Cond} (i : Nat) (h : (decide (tables_1_4[i]? = some w) && goodWord w) = true) : w ∈ zTB := zTB_of (by simp only [lw_tbl, tables_1, List.mem_append]; rw [Bool.and_eq_true, decide_eq_true_eq] at h; have q := List.mem_of_getElem? h.1; simp [q]) h
theorem zTB_i5 {w : Cond} (i : Nat) (h : (decide (tables_1_5[i]? = some w) && goodWord w) = true) : w ∈ zTB := zTB_of (by simp only [lw_tbl, tables_1, List.mem_append]; rw [Bool.and_eq_true, decide_eq_true_eq] at h; have q := List.mem_of_getElem? h.1; simp [q]) h
theorem zTB_i6 {w : Cond} (i : Nat) (h : (decide (tables_1_6[i]? = some w) && goodWord w) = true) : w ∈ zTB := zTB_of (by simp only [lw_tbl, tables_1, List.mem_append]; rw [Bool.and_eq_true, decide_eq_true_eq] at h; have q := List.mem_of_getElem? h.1; simp [q]) h
theorem zTB_i7 {w : Cond} (i : Nat) (h : (decide (tables_1_7[i]? = some w) && goodWord w) = true) : w ∈ zTB := zTB_of (by simp only [lw_tbl, tables_1, List.mem_append]; rw [Bool.and_eq_true, decide_eq_true_eq] at h; have q := List.mem_of_getElem? h.1; simp [q]) h
theorem zTB_i8 {w : Cond} (i : Nat) (h : (decide (tables_1_8[i]? = some w) && goodWord w) = true) : w ∈ zTB := zTB_of (by simp only [lw_tbl, tables_1, List.mem_append]; rw [Bool.and_eq_true, decide_eq_true_eq] at h; have q := List.mem_of_getElem? h.1; simp [q]) h
theorem zTB_i9 {w : Cond} (i : Nat) (h : (decide (tables_1_9[i]? = some w) && goodWord w) = true) : w ∈ zTB := zTB_of (by simp only [lw_tbl, tables_1, List.mem_append]; rw [Bool.and_eq_true, decide_eq_true_eq] at h; have q := List.mem_of_getElem? h.1; simp [q]) h
theorem zTB_allP {ws : List Cond} (ps : List Nat) (h : (decide (ws.map some = ps.map (fun i => lw_tbl[i]?)) && ws.all goodWord) = true) : ∀ w ∈ ws, w ∈ zTB := by
  rw [Bool.and_eq_true, decide_eq_true_eq] at h
  intro w hw
  have h1 : some w ∈ ws.map some := List.mem_map.mpr ⟨w, hw, rfl⟩
  rw [h.1] at h1
  obtain ⟨i, -, hi⟩ := List.mem_map.mp h1
  exact List.mem_filter.mpr ⟨List.mem_of_getElem? hi, List.all_eq_true.mp h.2 w hw⟩
theorem zlen_lt_of (T : List ZC) (h : (T.all (fun d => match d with | .inr a => decide (a.2 < 2 ^ 31) | _ => true)) = true) (k : Nat) : zlen T k < 2 ^ 31 := by
  unfold zlen zar
  cases hT : T[k]? with
  | none => decide
  | some d =>
    have h1 := List.all_eq_true.mp h d (List.mem_of_getElem? hT)
    cases d with
    | inl o => show (0 : Nat) < 2 ^ 31; decide
    | inr a => simpa using h1
def zTX : List ZC := [.inl (11, [(.object "WeatherWages$Tape", 1), (.object "WeatherWages$MillReader", 3), (.object "WeatherWages$Mill", 23), (.object "WeatherWages$State", 35), (.object "WeatherWages$Acts", 39), (.object "WeatherWages$Planner", 41), (.object "WeatherWages$Shelf", 51), (.object "WeatherWages$Sights", 53), (.array .int, 63), (.array .boolean, 64)]), .inl (10, [(.array .byte, 2), (.int, 0)]), .inr (1, 1600), .inl (4, [(.object "WeatherWages$Mill", 4), (.object "WeatherWages$Scanner", 16), (.object "WeatherWages$FormulaReader", 17), (.array .long, 18), (.array .long, 19), (.array .boolean, 20), (.array .boolean, 21), (.array .boolean, 22), (.boolean, 0), (.boolean, 0), (.boolean, 0)]), .inl (3, [(.int, 0), (.int, 0), (.int, 0), (.int, 0), (.int, 0), (.int, 0), (.array .int, 5), (.array .int, 6), (.array .int, 7), (.array .int, 8), (.array .int, 9), (.array .int, 10), (.array .int, 11), (.array .int, 12), (.object "WeatherWages$Formula", 13)]), .inr (0, 5), .inr (0, 5), .inr (0, 5), .inr (0, 15), .inr (0, 15), .inr (0, 9), .inr (0, 9), .inr (0, 5), .inl (1, [(.array .int, 14), (.array .int, 15), (.int, 0), (.int, 0)]), .inr (0, 300), .inr (0, 32), .inl (6, [(.object "WeatherWages$Tape", 1), (.int, 0), (.long, 0), (.int, 0), (.int, 0), (.int, 0), (.int, 0), (.int, 0), (.int, 0)]), .inl (2, [(.object "WeatherWages$Scanner", 16), (.object "WeatherWages$Formula", 13)]), .inr (3, 3), .inr (3, 5), .inr (2, 15), .inr (2, 15), .inr (2, 5), .inl (3, [(.int, 0), (.int, 0), (.int, 0), (.int, 0), (.int, 0), (.int, 0), (.array .int, 24), (.array .int, 25), (.array .int, 26), (.array .int, 27), (.array .int, 28), (.array .int, 29), (.array .int, 30), (.array .int, 31), (.object "WeatherWages$Formula", 32)]), .inr (0, 5), .inr (0, 5), .inr (0, 5), .inr (0, 15), .inr (0, 15), .inr (0, 9), .inr (0, 9), .inr (0, 5), .inl (1, [(.array .int, 33), (.array .int, 34), (.int, 0), (.int, 0)]), .inr (0, 300), .inr (0, 32), .inl (9, [(.object "WeatherWages$Mill", 23), (.array .int, 36), (.array .int, 37), (.array .int, 38)]), .inr (0, 42), .inr (0, 6), .inr (0, 15), .inl (0, [(.object "WeatherWages$State", 35), (.array .int, 40), (.int, 0), (.int, 0), (.int, 0)]), .inr (0, 1722), .inl (5, [(.object "WeatherWages$Mill", 23), (.object "WeatherWages$State", 35), (.object "WeatherWages$State", 42), (.array .int, 46), (.array .int, 47), (.array .int, 48), (.array .int, 49), (.array .int, 50), (.boolean, 0), (.int, 0), (.int, 0)]), .inl (9, [(.object "WeatherWages$Mill", 23), (.array .int, 43), (.array .int, 44), (.array .int, 45)]), .inr (0, 42), .inr (0, 6), .inr (0, 15), .inr (0, 15), .inr (0, 15), .inr (0, 15), .inr (0, 3), .inr (0, 3), .inl (7, [(.array .int, 52), (.int, 0)]), .inr (0, 6), .inl (8, [(.object "WeatherWages$Mill", 23), (.array .int, 54), (.array .int, 55), (.array .int, 56), (.array .int, 57), (.array .int, 58), (.array .int, 59), (.int, 0), (.int, 0), (.array .int, 60), (.array .int, 61), (.array .int, 62), (.int, 0)]), .inr (0, 30), .inr (0, 30), .inr (0, 30), .inr (0, 30), .inr (0, 30), .inr (0, 30), .inr (0, 5), .inr (0, 5), .inr (0, 25), .inr (0, 126), .inr (2, 3)]
def zTM : List ZC := [.inl (12, [(.array .byte, 1), (.array .byte, 2), (.int, 0), (.int, 0), (.int, 0), (.int, 0), (.int, 0), (.int, 0), (.int, 0), (.int, 0), (.long, 0), (.array .int, 3), (.array .int, 4), (.array .int, 5), (.array .int, 6), (.array .int, 7), (.array .int, 8), (.array .int, 9), (.array .int, 10), (.array .int, 11), (.array .int, 12), (.array .int, 13), (.array .int, 14), (.array .int, 15), (.array .int, 16), (.array .int, 17), (.array .int, 18), (.array .int, 19), (.array .int, 20), (.array .int, 21), (.array .int, 22), (.array .boolean, 23), (.array .boolean, 24), (.array .boolean, 25), (.array .long, 26), (.array .long, 27), (.array .int, 28), (.array .int, 29), (.array .int, 30), (.array .int, 31), (.array .int, 32), (.int, 0), (.int, 0), (.int, 0), (.int, 0), (.int, 0), (.int, 0), (.int, 0), (.array .int, 33), (.array .int, 34), (.int, 0), (.int, 0), (.array .int, 35), (.array .int, 36), (.array .int, 37), (.int, 0), (.int, 0), (.int, 0), (.array .int, 38), (.array .int, 39), (.array .int, 40), (.array .int, 41), (.int, 0), (.int, 0), (.array .int, 42), (.array .int, 43), (.array .int, 44), (.int, 0), (.int, 0), (.int, 0), (.array .int, 45), (.array .int, 46), (.array .int, 47), (.array .int, 48), (.array .int, 49), (.array .int, 50), (.array .int, 51), (.array .int, 52), (.int, 0), (.int, 0), (.int, 0), (.array .int, 53), (.array .boolean, 54)]), .inr (1, 1620), .inr (1, 1600), .inr (0, 2), .inr (0, 2), .inr (0, 2), .inr (0, 2), .inr (0, 2), .inr (0, 2), .inr (0, 2), .inr (0, 2), .inr (0, 2), .inr (0, 10), .inr (0, 10), .inr (0, 30), .inr (0, 30), .inr (0, 10), .inr (0, 10), .inr (0, 18), .inr (0, 18), .inr (0, 10), .inr (0, 2), .inr (0, 2), .inr (2, 2), .inr (2, 2), .inr (2, 2), .inr (3, 6), .inr (3, 10), .inr (0, 1120), .inr (0, 1120), .inr (0, 90), .inr (0, 90), .inr (0, 60), .inr (0, 42), .inr (0, 1722), .inr (0, 3), .inr (0, 3), .inr (0, 8), .inr (0, 3), .inr (0, 3), .inr (0, 3), .inr (0, 3), .inr (0, 42), .inr (0, 8), .inr (0, 15), .inr (0, 30), .inr (0, 30), .inr (0, 30), .inr (0, 30), .inr (0, 30), .inr (0, 30), .inr (0, 5), .inr (0, 25), .inr (0, 126), .inr (2, 3)]
theorem zlen_ltX (k : Nat) : zlen zTX k < 2 ^ 31 := zlen_lt_of zTX (by decide +kernel) k
theorem zlen_ltM (k : Nat) : zlen zTM k < 2 ^ 31 := zlen_lt_of zTM (by decide +kernel) k
theorem cX_0 : zcl zTX 0 = some 11 := by decide +kernel
theorem fX_0_0 : zfd zTX 0 0 = some (11, .object "WeatherWages$Tape", 1) := by decide +kernel
theorem fX_0_1 : zfd zTX 0 1 = some (11, .object "WeatherWages$MillReader", 3) := by decide +kernel
theorem fX_0_2 : zfd zTX 0 2 = some (11, .object "WeatherWages$Mill", 23) := by decide +kernel
theorem fX_0_3 : zfd zTX 0 3 = some (11, .object "WeatherWages$State", 35) := by decide +kernel
theorem fX_0_4 : zfd zTX 0 4 = some (11, .object "WeatherWages$Acts", 39) := by decide +kernel
theorem fX_0_5 : zfd zTX 0 5 = some (11, .object "WeatherWages$Planner", 41) := by decide +kernel
theorem fX_0_6 : zfd zTX 0 6 = some (11, .object "WeatherWages$Shelf", 51) := by decide +kernel
theorem fX_0_7 : zfd zTX 0 7 = some (11, .object "WeatherWages$Sights", 53) := by decide +kernel
theorem fX_0_8 : zfd zTX 0 8 = some (11, .array .int, 63) := by decide +kernel
theorem fX_0_9 : zfd zTX 0 9 = some (11, .array .boolean, 64) := by decide +kernel
theorem cX_1 : zcl zTX 1 = some 10 := by decide +kernel
theorem fX_1_0 : zfd zTX 1 0 = some (10, .array .byte, 2) := by decide +kernel
theorem fX_1_1 : zfd zTX 1 1 = some (10, .int, 0) := by decide +kernel
theorem aX_2 : zar zTX 2 = some (1, 1600) := by decide +kernel
theorem aX_2p : zar zTX 2 = some (1, zlen zTX 2) := by decide +kernel
theorem cX_3 : zcl zTX 3 = some 4 := by decide +kernel
theorem fX_3_0 : zfd zTX 3 0 = some (4, .object "WeatherWages$Mill", 4) := by decide +kernel
theorem fX_3_1 : zfd zTX 3 1 = some (4, .object "WeatherWages$Scanner", 16) := by decide +kernel
theorem fX_3_2 : zfd zTX 3 2 = some (4, .object "WeatherWages$FormulaReader", 17) := by decide +kernel
theorem fX_3_3 : zfd zTX 3 3 = some (4, .array .long, 18) := by decide +kernel
theorem fX_3_4 : zfd zTX 3 4 = some (4, .array .long, 19) := by decide +kernel
theorem fX_3_5 : zfd zTX 3 5 = some (4, .array .boolean, 20) := by decide +kernel
theorem fX_3_6 : zfd zTX 3 6 = some (4, .array .boolean, 21) := by decide +kernel
theorem fX_3_7 : zfd zTX 3 7 = some (4, .array .boolean, 22) := by decide +kernel
theorem fX_3_8 : zfd zTX 3 8 = some (4, .boolean, 0) := by decide +kernel
theorem fX_3_9 : zfd zTX 3 9 = some (4, .boolean, 0) := by decide +kernel
theorem fX_3_10 : zfd zTX 3 10 = some (4, .boolean, 0) := by decide +kernel
theorem cX_4 : zcl zTX 4 = some 3 := by decide +kernel
theorem fX_4_0 : zfd zTX 4 0 = some (3, .int, 0) := by decide +kernel
theorem fX_4_1 : zfd zTX 4 1 = some (3, .int, 0) := by decide +kernel
theorem fX_4_2 : zfd zTX 4 2 = some (3, .int, 0) := by decide +kernel
theorem fX_4_3 : zfd zTX 4 3 = some (3, .int, 0) := by decide +kernel
theorem fX_4_4 : zfd zTX 4 4 = some (3, .int, 0) := by decide +kernel
theorem fX_4_5 : zfd zTX 4 5 = some (3, .int, 0) := by decide +kernel
theorem fX_4_6 : zfd zTX 4 6 = some (3, .array .int, 5) := by decide +kernel
theorem fX_4_7 : zfd zTX 4 7 = some (3, .array .int, 6) := by decide +kernel
theorem fX_4_8 : zfd zTX 4 8 = some (3, .array .int, 7) := by decide +kernel
theorem fX_4_9 : zfd zTX 4 9 = some (3, .array .int, 8) := by decide +kernel
theorem fX_4_10 : zfd zTX 4 10 = some (3, .array .int, 9) := by decide +kernel
theorem fX_4_11 : zfd zTX 4 11 = some (3, .array .int, 10) := by decide +kernel
theorem fX_4_12 : zfd zTX 4 12 = some (3, .array .int, 11) := by decide +kernel
theorem fX_4_13 : zfd zTX 4 13 = some (3, .array .int, 12) := by decide +kernel
theorem fX_4_14 : zfd zTX 4 14 = some (3, .object "WeatherWages$Formula", 13) := by decide +kernel
theorem aX_5 : zar zTX 5 = some (0, 5) := by decide +kernel
theorem aX_5p : zar zTX 5 = some (0, zlen zTX 5) := by decide +kernel
theorem aX_6 : zar zTX 6 = some (0, 5) := by decide +kernel
theorem aX_6p : zar zTX 6 = some (0, zlen zTX 6) := by decide +kernel
theorem aX_7 : zar zTX 7 = some (0, 5) := by decide +kernel
theorem aX_7p : zar zTX 7 = some (0, zlen zTX 7) := by decide +kernel
theorem aX_8 : zar zTX 8 = some (0, 15) := by decide +kernel
theorem aX_8p : zar zTX 8 = some (0, zlen zTX 8) := by decide +kernel
theorem aX_9 : zar zTX 9 = some (0, 15) := by decide +kernel
theorem aX_9p : zar zTX 9 = some (0, zlen zTX 9) := by decide +kernel
theorem aX_10 : zar zTX 10 = some (0, 9) := by decide +kernel
theorem aX_10p : zar zTX 10 = some (0, zlen zTX 10) := by decide +kernel
theorem aX_11 : zar zTX 11 = some (0, 9) := by decide +kernel
theorem aX_11p : zar zTX 11 = some (0, zlen zTX 11) := by decide +kernel
theorem aX_12 : zar zTX 12 = some (0, 5) := by decide +kernel
theorem aX_12p : zar zTX 12 = some (0, zlen zTX 12) := by decide +kernel
theorem cX_13 : zcl zTX 13 = some 1 := by decide +kernel
theorem fX_13_0 : zfd zTX 13 0 = some (1, .array .int, 14) := by decide +kernel
theorem fX_13_1 : zfd zTX 13 1 = some (1, .array .int, 15) := by decide +kernel
theorem fX_13_2 : zfd zTX 13 2 = some (1, .int, 0) := by decide +kernel
theorem fX_13_3 : zfd zTX 13 3 = some (1, .int, 0) := by decide +kernel
theorem aX_14 : zar zTX 14 = some (0, 300) := by decide +kernel
theorem aX_14p : zar zTX 14 = some (0, zlen zTX 14) := by decide +kernel
theorem aX_15 : zar zTX 15 = some (0, 32) := by decide +kernel
theorem aX_15p : zar zTX 15 = some (0, zlen zTX 15) := by decide +kernel
theorem cX_16 : zcl zTX 16 = some 6 := by decide +kernel
theorem fX_16_0 : zfd zTX 16 0 = some (6, .object "WeatherWages$Tape", 1) := by decide +kernel
theorem fX_16_1 : zfd zTX 16 1 = some (6, .int, 0) := by decide +kernel
theorem fX_16_2 : zfd zTX 16 2 = some (6, .long, 0) := by decide +kernel
theorem fX_16_3 : zfd zTX 16 3 = some (6, .int, 0) := by decide +kernel
theorem fX_16_4 : zfd zTX 16 4 = some (6, .int, 0) := by decide +kernel
theorem fX_16_5 : zfd zTX 16 5 = some (6, .int, 0) := by decide +kernel
theorem fX_16_6 : zfd zTX 16 6 = some (6, .int, 0) := by decide +kernel
theorem fX_16_7 : zfd zTX 16 7 = some (6, .int, 0) := by decide +kernel
theorem fX_16_8 : zfd zTX 16 8 = some (6, .int, 0) := by decide +kernel
theorem cX_17 : zcl zTX 17 = some 2 := by decide +kernel
theorem fX_17_0 : zfd zTX 17 0 = some (2, .object "WeatherWages$Scanner", 16) := by decide +kernel
theorem fX_17_1 : zfd zTX 17 1 = some (2, .object "WeatherWages$Formula", 13) := by decide +kernel
theorem aX_18 : zar zTX 18 = some (3, 3) := by decide +kernel
theorem aX_18p : zar zTX 18 = some (3, zlen zTX 18) := by decide +kernel
theorem aX_19 : zar zTX 19 = some (3, 5) := by decide +kernel
theorem aX_19p : zar zTX 19 = some (3, zlen zTX 19) := by decide +kernel
theorem aX_20 : zar zTX 20 = some (2, 15) := by decide +kernel
theorem aX_20p : zar zTX 20 = some (2, zlen zTX 20) := by decide +kernel
theorem aX_21 : zar zTX 21 = some (2, 15) := by decide +kernel
theorem aX_21p : zar zTX 21 = some (2, zlen zTX 21) := by decide +kernel
theorem aX_22 : zar zTX 22 = some (2, 5) := by decide +kernel
theorem aX_22p : zar zTX 22 = some (2, zlen zTX 22) := by decide +kernel
theorem cX_23 : zcl zTX 23 = some 3 := by decide +kernel
theorem fX_23_0 : zfd zTX 23 0 = some (3, .int, 0) := by decide +kernel
theorem fX_23_1 : zfd zTX 23 1 = some (3, .int, 0) := by decide +kernel
theorem fX_23_2 : zfd zTX 23 2 = some (3, .int, 0) := by decide +kernel
theorem fX_23_3 : zfd zTX 23 3 = some (3, .int, 0) := by decide +kernel
theorem fX_23_4 : zfd zTX 23 4 = some (3, .int, 0) := by decide +kernel
theorem fX_23_5 : zfd zTX 23 5 = some (3, .int, 0) := by decide +kernel
theorem fX_23_6 : zfd zTX 23 6 = some (3, .array .int, 24) := by decide +kernel
theorem fX_23_7 : zfd zTX 23 7 = some (3, .array .int, 25) := by decide +kernel
theorem fX_23_8 : zfd zTX 23 8 = some (3, .array .int, 26) := by decide +kernel
theorem fX_23_9 : zfd zTX 23 9 = some (3, .array .int, 27) := by decide +kernel
theorem fX_23_10 : zfd zTX 23 10 = some (3, .array .int, 28) := by decide +kernel
theorem fX_23_11 : zfd zTX 23 11 = some (3, .array .int, 29) := by decide +kernel
theorem fX_23_12 : zfd zTX 23 12 = some (3, .array .int, 30) := by decide +kernel
theorem fX_23_13 : zfd zTX 23 13 = some (3, .array .int, 31) := by decide +kernel
theorem fX_23_14 : zfd zTX 23 14 = some (3, .object "WeatherWages$Formula", 32) := by decide +kernel
theorem aX_24 : zar zTX 24 = some (0, 5) := by decide +kernel
theorem aX_24p : zar zTX 24 = some (0, zlen zTX 24) := by decide +kernel
theorem aX_25 : zar zTX 25 = some (0, 5) := by decide +kernel
theorem aX_25p : zar zTX 25 = some (0, zlen zTX 25) := by decide +kernel
theorem aX_26 : zar zTX 26 = some (0, 5) := by decide +kernel
theorem aX_26p : zar zTX 26 = some (0, zlen zTX 26) := by decide +kernel
theorem aX_27 : zar zTX 27 = some (0, 15) := by decide +kernel
theorem aX_27p : zar zTX 27 = some (0, zlen zTX 27) := by decide +kernel
theorem aX_28 : zar zTX 28 = some (0, 15) := by decide +kernel
theorem aX_28p : zar zTX 28 = some (0, zlen zTX 28) := by decide +kernel
theorem aX_29 : zar zTX 29 = some (0, 9) := by decide +kernel
theorem aX_29p : zar zTX 29 = some (0, zlen zTX 29) := by decide +kernel
theorem aX_30 : zar zTX 30 = some (0, 9) := by decide +kernel
theorem aX_30p : zar zTX 30 = some (0, zlen zTX 30) := by decide +kernel
theorem aX_31 : zar zTX 31 = some (0, 5) := by decide +kernel
theorem aX_31p : zar zTX 31 = some (0, zlen zTX 31) := by decide +kernel
theorem cX_32 : zcl zTX 32 = some 1 := by decide +kernel
theorem fX_32_0 : zfd zTX 32 0 = some (1, .array .int, 33) := by decide +kernel
theorem fX_32_1 : zfd zTX 32 1 = some (1, .array .int, 34) := by decide +kernel
theorem fX_32_2 : zfd zTX 32 2 = some (1, .int, 0) := by decide +kernel
theorem fX_32_3 : zfd zTX 32 3 = some (1, .int, 0) := by decide +kernel
theorem aX_33 : zar zTX 33 = some (0, 300) := by decide +kernel
theorem aX_33p : zar zTX 33 = some (0, zlen zTX 33) := by decide +kernel
theorem aX_34 : zar zTX 34 = some (0, 32) := by decide +kernel
theorem aX_34p : zar zTX 34 = some (0, zlen zTX 34) := by decide +kernel
theorem cX_35 : zcl zTX 35 = some 9 := by decide +kernel
theorem fX_35_0 : zfd zTX 35 0 = some (9, .object "WeatherWages$Mill", 23) := by decide +kernel
theorem fX_35_1 : zfd zTX 35 1 = some (9, .array .int, 36) := by decide +kernel
theorem fX_35_2 : zfd zTX 35 2 = some (9, .array .int, 37) := by decide +kernel
theorem fX_35_3 : zfd zTX 35 3 = some (9, .array .int, 38) := by decide +kernel
theorem aX_36 : zar zTX 36 = some (0, 42) := by decide +kernel
theorem aX_36p : zar zTX 36 = some (0, zlen zTX 36) := by decide +kernel
theorem aX_37 : zar zTX 37 = some (0, 6) := by decide +kernel
theorem aX_37p : zar zTX 37 = some (0, zlen zTX 37) := by decide +kernel
theorem aX_38 : zar zTX 38 = some (0, 15) := by decide +kernel
theorem aX_38p : zar zTX 38 = some (0, zlen zTX 38) := by decide +kernel
theorem cX_39 : zcl zTX 39 = some 0 := by decide +kernel
theorem fX_39_0 : zfd zTX 39 0 = some (0, .object "WeatherWages$State", 35) := by decide +kernel
theorem fX_39_1 : zfd zTX 39 1 = some (0, .array .int, 40) := by decide +kernel
theorem fX_39_2 : zfd zTX 39 2 = some (0, .int, 0) := by decide +kernel
theorem fX_39_3 : zfd zTX 39 3 = some (0, .int, 0) := by decide +kernel
theorem fX_39_4 : zfd zTX 39 4 = some (0, .int, 0) := by decide +kernel
theorem aX_40 : zar zTX 40 = some (0, 1722) := by decide +kernel
theorem aX_40p : zar zTX 40 = some (0, zlen zTX 40) := by decide +kernel
theorem cX_41 : zcl zTX 41 = some 5 := by decide +kernel
theorem fX_41_0 : zfd zTX 41 0 = some (5, .object "WeatherWages$Mill", 23) := by decide +kernel
theorem fX_41_1 : zfd zTX 41 1 = some (5, .object "WeatherWages$State", 35) := by decide +kernel
theorem fX_41_2 : zfd zTX 41 2 = some (5, .object "WeatherWages$State", 42) := by decide +kernel
theorem fX_41_3 : zfd zTX 41 3 = some (5, .array .int, 46) := by decide +kernel
theorem fX_41_4 : zfd zTX 41 4 = some (5, .array .int, 47) := by decide +kernel
theorem fX_41_5 : zfd zTX 41 5 = some (5, .array .int, 48) := by decide +kernel
theorem fX_41_6 : zfd zTX 41 6 = some (5, .array .int, 49) := by decide +kernel
theorem fX_41_7 : zfd zTX 41 7 = some (5, .array .int, 50) := by decide +kernel
theorem fX_41_8 : zfd zTX 41 8 = some (5, .boolean, 0) := by decide +kernel
theorem fX_41_9 : zfd zTX 41 9 = some (5, .int, 0) := by decide +kernel
theorem fX_41_10 : zfd zTX 41 10 = some (5, .int, 0) := by decide +kernel
theorem cX_42 : zcl zTX 42 = some 9 := by decide +kernel
theorem fX_42_0 : zfd zTX 42 0 = some (9, .object "WeatherWages$Mill", 23) := by decide +kernel
theorem fX_42_1 : zfd zTX 42 1 = some (9, .array .int, 43) := by decide +kernel
theorem fX_42_2 : zfd zTX 42 2 = some (9, .array .int, 44) := by decide +kernel
theorem fX_42_3 : zfd zTX 42 3 = some (9, .array .int, 45) := by decide +kernel
theorem aX_43 : zar zTX 43 = some (0, 42) := by decide +kernel
theorem aX_43p : zar zTX 43 = some (0, zlen zTX 43) := by decide +kernel
theorem aX_44 : zar zTX 44 = some (0, 6) := by decide +kernel
theorem aX_44p : zar zTX 44 = some (0, zlen zTX 44) := by decide +kernel
theorem aX_45 : zar zTX 45 = some (0, 15) := by decide +kernel
theorem aX_45p : zar zTX 45 = some (0, zlen zTX 45) := by decide +kernel
theorem aX_46 : zar zTX 46 = some (0, 15) := by decide +kernel
theorem aX_46p : zar zTX 46 = some (0, zlen zTX 46) := by decide +kernel
theorem aX_47 : zar zTX 47 = some (0, 15) := by decide +kernel
theorem aX_47p : zar zTX 47 = some (0, zlen zTX 47) := by decide +kernel
theorem aX_48 : zar zTX 48 = some (0, 15) := by decide +kernel
theorem aX_48p : zar zTX 48 = some (0, zlen zTX 48) := by decide +kernel
theorem aX_49 : zar zTX 49 = some (0, 3) := by decide +kernel
theorem aX_49p : zar zTX 49 = some (0, zlen zTX 49) := by decide +kernel
theorem aX_50 : zar zTX 50 = some (0, 3) := by decide +kernel
theorem aX_50p : zar zTX 50 = some (0, zlen zTX 50) := by decide +kernel
theorem cX_51 : zcl zTX 51 = some 7 := by decide +kernel
theorem fX_51_0 : zfd zTX 51 0 = some (7, .array .int, 52) := by decide +kernel
theorem fX_51_1 : zfd zTX 51 1 = some (7, .int, 0) := by decide +kernel
theorem aX_52 : zar zTX 52 = some (0, 6) := by decide +kernel
theorem aX_52p : zar zTX 52 = some (0, zlen zTX 52) := by decide +kernel
theorem cX_53 : zcl zTX 53 = some 8 := by decide +kernel
theorem fX_53_0 : zfd zTX 53 0 = some (8, .object "WeatherWages$Mill", 23) := by decide +kernel
theorem fX_53_1 : zfd zTX 53 1 = some (8, .array .int, 54) := by decide +kernel
theorem fX_53_2 : zfd zTX 53 2 = some (8, .array .int, 55) := by decide +kernel
theorem fX_53_3 : zfd zTX 53 3 = some (8, .array .int, 56) := by decide +kernel
theorem fX_53_4 : zfd zTX 53 4 = some (8, .array .int, 57) := by decide +kernel
theorem fX_53_5 : zfd zTX 53 5 = some (8, .array .int, 58) := by decide +kernel
theorem fX_53_6 : zfd zTX 53 6 = some (8, .array .int, 59) := by decide +kernel
theorem fX_53_7 : zfd zTX 53 7 = some (8, .int, 0) := by decide +kernel
theorem fX_53_8 : zfd zTX 53 8 = some (8, .int, 0) := by decide +kernel
theorem fX_53_9 : zfd zTX 53 9 = some (8, .array .int, 60) := by decide +kernel
theorem fX_53_10 : zfd zTX 53 10 = some (8, .array .int, 61) := by decide +kernel
theorem fX_53_11 : zfd zTX 53 11 = some (8, .array .int, 62) := by decide +kernel
theorem fX_53_12 : zfd zTX 53 12 = some (8, .int, 0) := by decide +kernel
theorem aX_54 : zar zTX 54 = some (0, 30) := by decide +kernel
theorem aX_54p : zar zTX 54 = some (0, zlen zTX 54) := by decide +kernel
theorem aX_55 : zar zTX 55 = some (0, 30) := by decide +kernel
theorem aX_55p : zar zTX 55 = some (0, zlen zTX 55) := by decide +kernel
theorem aX_56 : zar zTX 56 = some (0, 30) := by decide +kernel
theorem aX_56p : zar zTX 56 = some (0, zlen zTX 56) := by decide +kernel
theorem aX_57 : zar zTX 57 = some (0, 30) := by decide +kernel
theorem aX_57p : zar zTX 57 = some (0, zlen zTX 57) := by decide +kernel
theorem aX_58 : zar zTX 58 = some (0, 30) := by decide +kernel
theorem aX_58p : zar zTX 58 = some (0, zlen zTX 58) := by decide +kernel
theorem aX_59 : zar zTX 59 = some (0, 30) := by decide +kernel
theorem aX_59p : zar zTX 59 = some (0, zlen zTX 59) := by decide +kernel
theorem aX_60 : zar zTX 60 = some (0, 5) := by decide +kernel
theorem aX_60p : zar zTX 60 = some (0, zlen zTX 60) := by decide +kernel
theorem aX_61 : zar zTX 61 = some (0, 5) := by decide +kernel
theorem aX_61p : zar zTX 61 = some (0, zlen zTX 61) := by decide +kernel
theorem aX_62 : zar zTX 62 = some (0, 25) := by decide +kernel
theorem aX_62p : zar zTX 62 = some (0, zlen zTX 62) := by decide +kernel
theorem aX_63 : zar zTX 63 = some (0, 126) := by decide +kernel
theorem aX_63p : zar zTX 63 = some (0, zlen zTX 63) := by decide +kernel
theorem aX_64 : zar zTX 64 = some (2, 3) := by decide +kernel
theorem aX_64p : zar zTX 64 = some (2, zlen zTX 64) := by decide +kernel
theorem cM_0 : zcl zTM 0 = some 12 := by decide +kernel
theorem fM_0_0 : zfd zTM 0 0 = some (12, .array .byte, 1) := by decide +kernel
theorem fM_0_1 : zfd zTM 0 1 = some (12, .array .byte, 2) := by decide +kernel
theorem fM_0_2 : zfd zTM 0 2 = some (12, .int, 0) := by decide +kernel
theorem fM_0_3 : zfd zTM 0 3 = some (12, .int, 0) := by decide +kernel
theorem fM_0_4 : zfd zTM 0 4 = some (12, .int, 0) := by decide +kernel
theorem fM_0_5 : zfd zTM 0 5 = some (12, .int, 0) := by decide +kernel
theorem fM_0_6 : zfd zTM 0 6 = some (12, .int, 0) := by decide +kernel
theorem fM_0_7 : zfd zTM 0 7 = some (12, .int, 0) := by decide +kernel
theorem fM_0_8 : zfd zTM 0 8 = some (12, .int, 0) := by decide +kernel
theorem fM_0_9 : zfd zTM 0 9 = some (12, .int, 0) := by decide +kernel
theorem fM_0_10 : zfd zTM 0 10 = some (12, .long, 0) := by decide +kernel
theorem fM_0_11 : zfd zTM 0 11 = some (12, .array .int, 3) := by decide +kernel
theorem fM_0_12 : zfd zTM 0 12 = some (12, .array .int, 4) := by decide +kernel
theorem fM_0_13 : zfd zTM 0 13 = some (12, .array .int, 5) := by decide +kernel
theorem fM_0_14 : zfd zTM 0 14 = some (12, .array .int, 6) := by decide +kernel
theorem fM_0_15 : zfd zTM 0 15 = some (12, .array .int, 7) := by decide +kernel
theorem fM_0_16 : zfd zTM 0 16 = some (12, .array .int, 8) := by decide +kernel
theorem fM_0_17 : zfd zTM 0 17 = some (12, .array .int, 9) := by decide +kernel
theorem fM_0_18 : zfd zTM 0 18 = some (12, .array .int, 10) := by decide +kernel
theorem fM_0_19 : zfd zTM 0 19 = some (12, .array .int, 11) := by decide +kernel
theorem fM_0_20 : zfd zTM 0 20 = some (12, .array .int, 12) := by decide +kernel
theorem fM_0_21 : zfd zTM 0 21 = some (12, .array .int, 13) := by decide +kernel
theorem fM_0_22 : zfd zTM 0 22 = some (12, .array .int, 14) := by decide +kernel
theorem fM_0_23 : zfd zTM 0 23 = some (12, .array .int, 15) := by decide +kernel
theorem fM_0_24 : zfd zTM 0 24 = some (12, .array .int, 16) := by decide +kernel
theorem fM_0_25 : zfd zTM 0 25 = some (12, .array .int, 17) := by decide +kernel
theorem fM_0_26 : zfd zTM 0 26 = some (12, .array .int, 18) := by decide +kernel
theorem fM_0_27 : zfd zTM 0 27 = some (12, .array .int, 19) := by decide +kernel
theorem fM_0_28 : zfd zTM 0 28 = some (12, .array .int, 20) := by decide +kernel
theorem fM_0_29 : zfd zTM 0 29 = some (12, .array .int, 21) := by decide +kernel
theorem fM_0_30 : zfd zTM 0 30 = some (12, .array .int, 22) := by decide +kernel
theorem fM_0_31 : zfd zTM 0 31 = some (12, .array .boolean, 23) := by decide +kernel
theorem fM_0_32 : zfd zTM 0 32 = some (12, .array .boolean, 24) := by decide +kernel
theorem fM_0_33 : zfd zTM 0 33 = some (12, .array .boolean, 25) := by decide +kernel
theorem fM_0_34 : zfd zTM 0 34 = some (12, .array .long, 26) := by decide +kernel
theorem fM_0_35 : zfd zTM 0 35 = some (12, .array .long, 27) := by decide +kernel
theorem fM_0_36 : zfd zTM 0 36 = some (12, .array .int, 28) := by decide +kernel
theorem fM_0_37 : zfd zTM 0 37 = some (12, .array .int, 29) := by decide +kernel
theorem fM_0_38 : zfd zTM 0 38 = some (12, .array .int, 30) := by decide +kernel
theorem fM_0_39 : zfd zTM 0 39 = some (12, .array .int, 31) := by decide +kernel
theorem fM_0_40 : zfd zTM 0 40 = some (12, .array .int, 32) := by decide +kernel
theorem fM_0_41 : zfd zTM 0 41 = some (12, .int, 0) := by decide +kernel
theorem fM_0_42 : zfd zTM 0 42 = some (12, .int, 0) := by decide +kernel
theorem fM_0_43 : zfd zTM 0 43 = some (12, .int, 0) := by decide +kernel
theorem fM_0_44 : zfd zTM 0 44 = some (12, .int, 0) := by decide +kernel
theorem fM_0_45 : zfd zTM 0 45 = some (12, .int, 0) := by decide +kernel
theorem fM_0_46 : zfd zTM 0 46 = some (12, .int, 0) := by decide +kernel
theorem fM_0_47 : zfd zTM 0 47 = some (12, .int, 0) := by decide +kernel
theorem fM_0_48 : zfd zTM 0 48 = some (12, .array .int, 33) := by decide +kernel
theorem fM_0_49 : zfd zTM 0 49 = some (12, .array .int, 34) := by decide +kernel
theorem fM_0_50 : zfd zTM 0 50 = some (12, .int, 0) := by decide +kernel
theorem fM_0_51 : zfd zTM 0 51 = some (12, .int, 0) := by decide +kernel
theorem fM_0_52 : zfd zTM 0 52 = some (12, .array .int, 35) := by decide +kernel
theorem fM_0_53 : zfd zTM 0 53 = some (12, .array .int, 36) := by decide +kernel
theorem fM_0_54 : zfd zTM 0 54 = some (12, .array .int, 37) := by decide +kernel
theorem fM_0_55 : zfd zTM 0 55 = some (12, .int, 0) := by decide +kernel
theorem fM_0_56 : zfd zTM 0 56 = some (12, .int, 0) := by decide +kernel
theorem fM_0_57 : zfd zTM 0 57 = some (12, .int, 0) := by decide +kernel
theorem fM_0_58 : zfd zTM 0 58 = some (12, .array .int, 38) := by decide +kernel
theorem fM_0_59 : zfd zTM 0 59 = some (12, .array .int, 39) := by decide +kernel
theorem fM_0_60 : zfd zTM 0 60 = some (12, .array .int, 40) := by decide +kernel
theorem fM_0_61 : zfd zTM 0 61 = some (12, .array .int, 41) := by decide +kernel
theorem fM_0_62 : zfd zTM 0 62 = some (12, .int, 0) := by decide +kernel
theorem fM_0_63 : zfd zTM 0 63 = some (12, .int, 0) := by decide +kernel
theorem fM_0_64 : zfd zTM 0 64 = some (12, .array .int, 42) := by decide +kernel
theorem fM_0_65 : zfd zTM 0 65 = some (12, .array .int, 43) := by decide +kernel
theorem fM_0_66 : zfd zTM 0 66 = some (12, .array .int, 44) := by decide +kernel
theorem fM_0_67 : zfd zTM 0 67 = some (12, .int, 0) := by decide +kernel
theorem fM_0_68 : zfd zTM 0 68 = some (12, .int, 0) := by decide +kernel
theorem fM_0_69 : zfd zTM 0 69 = some (12, .int, 0) := by decide +kernel
theorem fM_0_70 : zfd zTM 0 70 = some (12, .array .int, 45) := by decide +kernel
theorem fM_0_71 : zfd zTM 0 71 = some (12, .array .int, 46) := by decide +kernel
theorem fM_0_72 : zfd zTM 0 72 = some (12, .array .int, 47) := by decide +kernel
theorem fM_0_73 : zfd zTM 0 73 = some (12, .array .int, 48) := by decide +kernel
theorem fM_0_74 : zfd zTM 0 74 = some (12, .array .int, 49) := by decide +kernel
theorem fM_0_75 : zfd zTM 0 75 = some (12, .array .int, 50) := by decide +kernel
theorem fM_0_76 : zfd zTM 0 76 = some (12, .array .int, 51) := by decide +kernel
theorem fM_0_77 : zfd zTM 0 77 = some (12, .array .int, 52) := by decide +kernel
theorem fM_0_78 : zfd zTM 0 78 = some (12, .int, 0) := by decide +kernel
theorem fM_0_79 : zfd zTM 0 79 = some (12, .int, 0) := by decide +kernel
theorem fM_0_80 : zfd zTM 0 80 = some (12, .int, 0) := by decide +kernel
theorem fM_0_81 : zfd zTM 0 81 = some (12, .array .int, 53) := by decide +kernel
theorem fM_0_82 : zfd zTM 0 82 = some (12, .array .boolean, 54) := by decide +kernel
theorem aM_1 : zar zTM 1 = some (1, 1620) := by decide +kernel
theorem aM_1p : zar zTM 1 = some (1, zlen zTM 1) := by decide +kernel
theorem aM_2 : zar zTM 2 = some (1, 1600) := by decide +kernel
theorem aM_2p : zar zTM 2 = some (1, zlen zTM 2) := by decide +kernel
theorem aM_3 : zar zTM 3 = some (0, 2) := by decide +kernel
theorem aM_3p : zar zTM 3 = some (0, zlen zTM 3) := by decide +kernel
theorem aM_4 : zar zTM 4 = some (0, 2) := by decide +kernel
theorem aM_4p : zar zTM 4 = some (0, zlen zTM 4) := by decide +kernel
theorem aM_5 : zar zTM 5 = some (0, 2) := by decide +kernel
theorem aM_5p : zar zTM 5 = some (0, zlen zTM 5) := by decide +kernel
theorem aM_6 : zar zTM 6 = some (0, 2) := by decide +kernel
theorem aM_6p : zar zTM 6 = some (0, zlen zTM 6) := by decide +kernel
theorem aM_7 : zar zTM 7 = some (0, 2) := by decide +kernel
theorem aM_7p : zar zTM 7 = some (0, zlen zTM 7) := by decide +kernel
theorem aM_8 : zar zTM 8 = some (0, 2) := by decide +kernel
theorem aM_8p : zar zTM 8 = some (0, zlen zTM 8) := by decide +kernel
theorem aM_9 : zar zTM 9 = some (0, 2) := by decide +kernel
theorem aM_9p : zar zTM 9 = some (0, zlen zTM 9) := by decide +kernel
theorem aM_10 : zar zTM 10 = some (0, 2) := by decide +kernel
theorem aM_10p : zar zTM 10 = some (0, zlen zTM 10) := by decide +kernel
theorem aM_11 : zar zTM 11 = some (0, 2) := by decide +kernel
theorem aM_11p : zar zTM 11 = some (0, zlen zTM 11) := by decide +kernel
theorem aM_12 : zar zTM 12 = some (0, 10) := by decide +kernel
theorem aM_12p : zar zTM 12 = some (0, zlen zTM 12) := by decide +kernel
theorem aM_13 : zar zTM 13 = some (0, 10) := by decide +kernel
theorem aM_13p : zar zTM 13 = some (0, zlen zTM 13) := by decide +kernel
theorem aM_14 : zar zTM 14 = some (0, 30) := by decide +kernel
theorem aM_14p : zar zTM 14 = some (0, zlen zTM 14) := by decide +kernel
theorem aM_15 : zar zTM 15 = some (0, 30) := by decide +kernel
theorem aM_15p : zar zTM 15 = some (0, zlen zTM 15) := by decide +kernel
theorem aM_16 : zar zTM 16 = some (0, 10) := by decide +kernel
theorem aM_16p : zar zTM 16 = some (0, zlen zTM 16) := by decide +kernel
theorem aM_17 : zar zTM 17 = some (0, 10) := by decide +kernel
theorem aM_17p : zar zTM 17 = some (0, zlen zTM 17) := by decide +kernel
theorem aM_18 : zar zTM 18 = some (0, 18) := by decide +kernel
theorem aM_18p : zar zTM 18 = some (0, zlen zTM 18) := by decide +kernel
theorem aM_19 : zar zTM 19 = some (0, 18) := by decide +kernel
theorem aM_19p : zar zTM 19 = some (0, zlen zTM 19) := by decide +kernel
theorem aM_20 : zar zTM 20 = some (0, 10) := by decide +kernel
theorem aM_20p : zar zTM 20 = some (0, zlen zTM 20) := by decide +kernel
theorem aM_21 : zar zTM 21 = some (0, 2) := by decide +kernel
theorem aM_21p : zar zTM 21 = some (0, zlen zTM 21) := by decide +kernel
theorem aM_22 : zar zTM 22 = some (0, 2) := by decide +kernel
theorem aM_22p : zar zTM 22 = some (0, zlen zTM 22) := by decide +kernel
theorem aM_23 : zar zTM 23 = some (2, 2) := by decide +kernel
theorem aM_23p : zar zTM 23 = some (2, zlen zTM 23) := by decide +kernel
theorem aM_24 : zar zTM 24 = some (2, 2) := by decide +kernel
theorem aM_24p : zar zTM 24 = some (2, zlen zTM 24) := by decide +kernel
theorem aM_25 : zar zTM 25 = some (2, 2) := by decide +kernel
theorem aM_25p : zar zTM 25 = some (2, zlen zTM 25) := by decide +kernel
theorem aM_26 : zar zTM 26 = some (3, 6) := by decide +kernel
theorem aM_26p : zar zTM 26 = some (3, zlen zTM 26) := by decide +kernel
theorem aM_27 : zar zTM 27 = some (3, 10) := by decide +kernel
theorem aM_27p : zar zTM 27 = some (3, zlen zTM 27) := by decide +kernel
theorem aM_28 : zar zTM 28 = some (0, 1120) := by decide +kernel
theorem aM_28p : zar zTM 28 = some (0, zlen zTM 28) := by decide +kernel
theorem aM_29 : zar zTM 29 = some (0, 1120) := by decide +kernel
theorem aM_29p : zar zTM 29 = some (0, zlen zTM 29) := by decide +kernel
theorem aM_30 : zar zTM 30 = some (0, 90) := by decide +kernel
theorem aM_30p : zar zTM 30 = some (0, zlen zTM 30) := by decide +kernel
theorem aM_31 : zar zTM 31 = some (0, 90) := by decide +kernel
theorem aM_31p : zar zTM 31 = some (0, zlen zTM 31) := by decide +kernel
theorem aM_32 : zar zTM 32 = some (0, 60) := by decide +kernel
theorem aM_32p : zar zTM 32 = some (0, zlen zTM 32) := by decide +kernel
theorem aM_33 : zar zTM 33 = some (0, 42) := by decide +kernel
theorem aM_33p : zar zTM 33 = some (0, zlen zTM 33) := by decide +kernel
theorem aM_34 : zar zTM 34 = some (0, 1722) := by decide +kernel
theorem aM_34p : zar zTM 34 = some (0, zlen zTM 34) := by decide +kernel
theorem aM_35 : zar zTM 35 = some (0, 3) := by decide +kernel
theorem aM_35p : zar zTM 35 = some (0, zlen zTM 35) := by decide +kernel
theorem aM_36 : zar zTM 36 = some (0, 3) := by decide +kernel
theorem aM_36p : zar zTM 36 = some (0, zlen zTM 36) := by decide +kernel
theorem aM_37 : zar zTM 37 = some (0, 8) := by decide +kernel
theorem aM_37p : zar zTM 37 = some (0, zlen zTM 37) := by decide +kernel
theorem aM_38 : zar zTM 38 = some (0, 3) := by decide +kernel
theorem aM_38p : zar zTM 38 = some (0, zlen zTM 38) := by decide +kernel
theorem aM_39 : zar zTM 39 = some (0, 3) := by decide +kernel
theorem aM_39p : zar zTM 39 = some (0, zlen zTM 39) := by decide +kernel
theorem aM_40 : zar zTM 40 = some (0, 3) := by decide +kernel
theorem aM_40p : zar zTM 40 = some (0, zlen zTM 40) := by decide +kernel
theorem aM_41 : zar zTM 41 = some (0, 3) := by decide +kernel
theorem aM_41p : zar zTM 41 = some (0, zlen zTM 41) := by decide +kernel
theorem aM_42 : zar zTM 42 = some (0, 42) := by decide +kernel
theorem aM_42p : zar zTM 42 = some (0, zlen zTM 42) := by decide +kernel
theorem aM_43 : zar zTM 43 = some (0, 8) := by decide +kernel
theorem aM_43p : zar zTM 43 = some (0, zlen zTM 43) := by decide +kernel
theorem aM_44 : zar zTM 44 = some (0, 15) := by decide +kernel
theorem aM_44p : zar zTM 44 = some (0, zlen zTM 44) := by decide +kernel
theorem aM_45 : zar zTM 45 = some (0, 30) := by decide +kernel
theorem aM_45p : zar zTM 45 = some (0, zlen zTM 45) := by decide +kernel
theorem aM_46 : zar zTM 46 = some (0, 30) := by decide +kernel
theorem aM_46p : zar zTM 46 = some (0, zlen zTM 46) := by decide +kernel
theorem aM_47 : zar zTM 47 = some (0, 30) := by decide +kernel
theorem aM_47p : zar zTM 47 = some (0, zlen zTM 47) := by decide +kernel
theorem aM_48 : zar zTM 48 = some (0, 30) := by decide +kernel
theorem aM_48p : zar zTM 48 = some (0, zlen zTM 48) := by decide +kernel
theorem aM_49 : zar zTM 49 = some (0, 30) := by decide +kernel
theorem aM_49p : zar zTM 49 = some (0, zlen zTM 49) := by decide +kernel
theorem aM_50 : zar zTM 50 = some (0, 30) := by decide +kernel
theorem aM_50p : zar zTM 50 = some (0, zlen zTM 50) := by decide +kernel
theorem aM_51 : zar zTM 51 = some (0, 5) := by decide +kernel
theorem aM_51p : zar zTM 51 = some (0, zlen zTM 51) := by decide +kernel
theorem aM_52 : zar zTM 52 = some (0, 25) := by decide +kernel
theorem aM_52p : zar zTM 52 = some (0, zlen zTM 52) := by decide +kernel
theorem aM_53 : zar zTM 53 = some (0, 126) := by decide +kernel
theorem aM_53p : zar zTM 53 = some (0, zlen zTM 53) := by decide +kernel
theorem aM_54 : zar zTM 54 = some (2, 3) := by decide +kernel
theorem aM_54p : zar zTM 54 = some (2, zlen zTM 54) := by decide +kernel
theorem kX0 : zCls 0 RX0 TX0 5 tyX0 := ⟨rfl, zTB_allP [398, 400, 402, 404, 406] (by decide +kernel), nmX0, tyX0_ok⟩
theorem kX1 : zCls 1 RX1 TX1 4 tyX1 := ⟨rfl, zTB_allP [187, 189, 191, 193] (by decide +kernel), nmX1, tyX1_ok⟩
theorem kX2 : zCls 2 RX2 TX2 2 tyX2 := ⟨rfl, zTB_allP [326, 328] (by decide +kernel), nmX2, tyX2_ok⟩
theorem kX3 : zCls 3 RX3 TX3 15 tyX3 := ⟨rfl, zTB_allP [246, 248, 250, 252, 254, 256, 258, 260, 262, 264, 266, 268, 270, 272, 274] (by decide +kernel), nmX3, tyX3_ok⟩
theorem kX4 : zCls 4 RX4 TX4 11 tyX4 := ⟨rfl, zTB_allP [343, 345, 347, 349, 351, 353, 355, 357, 359, 361, 363] (by decide +kernel), nmX4, tyX4_ok⟩
theorem kX5 : zCls 5 RX5 TX5 11 tyX5 := ⟨rfl, zTB_allP [429, 431, 433, 435, 437, 439, 441, 443, 445, 447, 449] (by decide +kernel), nmX5, tyX5_ok⟩
theorem kX6 : zCls 6 RX6 TX6 9 tyX6 := ⟨rfl, zTB_allP [299, 301, 303, 305, 307, 309, 311, 313, 315] (by decide +kernel), nmX6, tyX6_ok⟩
theorem kX7 : zCls 7 RX7 TX7 2 tyX7 := ⟨rfl, zTB_allP [461, 463] (by decide +kernel), nmX7, tyX7_ok⟩
theorem kX8 : zCls 8 RX8 TX8 13 tyX8 := ⟨rfl, zTB_allP [487, 489, 491, 493, 495, 497, 499, 501, 503, 505, 507, 509, 511] (by decide +kernel), nmX8, tyX8_ok⟩
theorem kX9 : zCls 9 RX9 TX9 4 tyX9 := ⟨rfl, zTB_allP [378, 380, 382, 384] (by decide +kernel), nmX9, tyX9_ok⟩
theorem kX10 : zCls 10 RX10 TX10 2 tyX10 := ⟨rfl, zTB_allP [157, 159] (by decide +kernel), nmX10, tyX10_ok⟩
theorem kX11 : zCls 11 RX11 TX11 10 tyX11 := ⟨rfl, zTB_allP [524, 526, 528, 530, 532, 534, 536, 538, 540, 542] (by decide +kernel), nmX11, tyX11_ok⟩
theorem kX12 : zCls 12 RX12 TX12 83 tyX12 := ⟨rfl, zTB_allP [1510, 1512, 1514, 1516, 1518, 1520, 1522, 1524, 1526, 1528, 1530, 1532, 1534, 1536, 1538, 1540, 1542, 1544, 1546, 1548, 1550, 1552, 1554, 1556, 1558, 1560, 1562, 1564, 1566, 1568, 1570, 1572, 1574, 1576, 1578, 1580, 1582, 1584, 1586, 1588, 1590, 1592, 1594, 1596, 1598, 1600, 1602, 1604, 1606, 1608, 1610, 1612, 1614, 1616, 1618, 1620, 1622, 1624, 1626, 1628, 1630, 1632, 1634, 1636, 1638, 1640, 1642, 1644, 1646, 1648, 1650, 1652, 1654, 1656, 1658, 1660, 1662, 1664, 1666, 1668, 1670, 1672, 1674] (by decide +kernel), nmX12, tyX12_ok⟩
theorem lkf_X10_9 : Cond.fieldLink RX10 9 "WeatherWages$Tape" "bytes" "[B" ∈ zTB := zTB_i1 34 (by decide +kernel)
theorem lkf_X11_81 : Cond.fieldLink RX11 81 "WeatherWages$Tape" "length" "I" ∈ zTB := zTB_i1 35 (by decide +kernel)
theorem lkf_X10_15 : Cond.fieldLink RX10 15 "WeatherWages$Tape" "length" "I" ∈ zTB := zTB_i1 36 (by decide +kernel)
theorem lkf_X6_28 : Cond.fieldLink RX6 28 "WeatherWages$Tape" "length" "I" ∈ zTB := zTB_i1 37 (by decide +kernel)
theorem lkf_X1_9 : Cond.fieldLink RX1 9 "WeatherWages$Formula" "code" "[I" ∈ zTB := zTB_i1 62 (by decide +kernel)
theorem lkf_X1_13 : Cond.fieldLink RX1 13 "WeatherWages$Formula" "stack" "[I" ∈ zTB := zTB_i1 63 (by decide +kernel)
theorem lkf_X1_16 : Cond.fieldLink RX1 16 "WeatherWages$Formula" "length" "I" ∈ zTB := zTB_i1 64 (by decide +kernel)
theorem lkf_X1_20 : Cond.fieldLink RX1 20 "WeatherWages$Formula" "units" "I" ∈ zTB := zTB_i1 65 (by decide +kernel)
theorem lkf_X2_73 : Cond.fieldLink RX2 73 "WeatherWages$Formula" "units" "I" ∈ zTB := zTB_i1 66 (by decide +kernel)
theorem lkf_X11_330 : Cond.fieldLink RX11 330 "WeatherWages$Formula" "units" "I" ∈ zTB := zTB_i1 67 (by decide +kernel)
theorem lkf_X3_47 : Cond.fieldLink RX3 47 "WeatherWages$Mill" "men" "I" ∈ zTB := zTB_i1 80 (by decide +kernel)
theorem lkf_X9_40 : Cond.fieldLink RX9 40 "WeatherWages$Mill" "men" "I" ∈ zTB := zTB_i1 81 (by decide +kernel)
theorem lkf_X11_109 : Cond.fieldLink RX11 109 "WeatherWages$Mill" "men" "I" ∈ zTB := zTB_i1 82 (by decide +kernel)
theorem lkf_X5_62 : Cond.fieldLink RX5 62 "WeatherWages$Mill" "men" "I" ∈ zTB := zTB_i1 83 (by decide +kernel)
theorem lkf_X4_170 : Cond.fieldLink RX4 170 "WeatherWages$Mill" "men" "I" ∈ zTB := zTB_i1 84 (by decide +kernel)
theorem lkf_X3_50 : Cond.fieldLink RX3 50 "WeatherWages$Mill" "kinds" "I" ∈ zTB := zTB_i1 85 (by decide +kernel)
theorem lkf_X4_156 : Cond.fieldLink RX4 156 "WeatherWages$Mill" "kinds" "I" ∈ zTB := zTB_i1 86 (by decide +kernel)
theorem lkf_X9_67 : Cond.fieldLink RX9 67 "WeatherWages$Mill" "kinds" "I" ∈ zTB := zTB_i1 87 (by decide +kernel)
theorem lkf_X5_135 : Cond.fieldLink RX5 135 "WeatherWages$Mill" "kinds" "I" ∈ zTB := zTB_i1 88 (by decide +kernel)
theorem lkf_X11_204 : Cond.fieldLink RX11 204 "WeatherWages$Mill" "kinds" "I" ∈ zTB := zTB_i1 89 (by decide +kernel)
theorem lkf_X3_53 : Cond.fieldLink RX3 53 "WeatherWages$Mill" "books" "I" ∈ zTB := zTB_i1 90 (by decide +kernel)
theorem lkf_X4_222 : Cond.fieldLink RX4 222 "WeatherWages$Mill" "books" "I" ∈ zTB := zTB_i1 91 (by decide +kernel)
theorem lkf_X11_302 : Cond.fieldLink RX11 302 "WeatherWages$Mill" "books" "I" ∈ zTB := zTB_i1 92 (by decide +kernel)
theorem lkf_X3_56 : Cond.fieldLink RX3 56 "WeatherWages$Mill" "rates" "I" ∈ zTB := zTB_i1 93 (by decide +kernel)
theorem lkf_X4_219 : Cond.fieldLink RX4 219 "WeatherWages$Mill" "rates" "I" ∈ zTB := zTB_i1 94 (by decide +kernel)
theorem lkf_X11_305 : Cond.fieldLink RX11 305 "WeatherWages$Mill" "rates" "I" ∈ zTB := zTB_i1 95 (by decide +kernel)
theorem lkf_X3_43 : Cond.fieldLink RX3 43 "WeatherWages$Mill" "hours" "I" ∈ zTB := zTB_i1 96 (by decide +kernel)
theorem lkf_X9_60 : Cond.fieldLink RX9 60 "WeatherWages$Mill" "hours" "I" ∈ zTB := zTB_i1 97 (by decide +kernel)
theorem lkf_X4_231 : Cond.fieldLink RX4 231 "WeatherWages$Mill" "hours" "I" ∈ zTB := zTB_i1 98 (by decide +kernel)
theorem lkf_X11_311 : Cond.fieldLink RX11 311 "WeatherWages$Mill" "hours" "I" ∈ zTB := zTB_i1 99 (by decide +kernel)
theorem lkf_X3_59 : Cond.fieldLink RX3 59 "WeatherWages$Mill" "draw" "I" ∈ zTB := zTB_i1 100 (by decide +kernel)
theorem lkf_X9_47 : Cond.fieldLink RX9 47 "WeatherWages$Mill" "draw" "I" ∈ zTB := zTB_i1 101 (by decide +kernel)
theorem lkf_X4_233 : Cond.fieldLink RX4 233 "WeatherWages$Mill" "draw" "I" ∈ zTB := zTB_i1 102 (by decide +kernel)
theorem lkf_X3_9 : Cond.fieldLink RX3 9 "WeatherWages$Mill" "crops" "[I" ∈ zTB := zTB_i1 103 (by decide +kernel)
theorem lkf_X9_44 : Cond.fieldLink RX9 44 "WeatherWages$Mill" "crops" "[I" ∈ zTB := zTB_i1 104 (by decide +kernel)
theorem lkf_X4_182 : Cond.fieldLink RX4 182 "WeatherWages$Mill" "crops" "[I" ∈ zTB := zTB_i1 105 (by decide +kernel)
theorem lkf_X3_15 : Cond.fieldLink RX3 15 "WeatherWages$Mill" "loose" "[I" ∈ zTB := zTB_i1 106 (by decide +kernel)
theorem lkf_X4_194 : Cond.fieldLink RX4 194 "WeatherWages$Mill" "loose" "[I" ∈ zTB := zTB_i1 107 (by decide +kernel)
theorem lkf_X3_18 : Cond.fieldLink RX3 18 "WeatherWages$Mill" "hedges" "[I" ∈ zTB := zTB_i1 108 (by decide +kernel)
theorem lkf_X11_140 : Cond.fieldLink RX11 140 "WeatherWages$Mill" "hedges" "[I" ∈ zTB := zTB_i1 109 (by decide +kernel)
theorem lkf_X4_204 : Cond.fieldLink RX4 204 "WeatherWages$Mill" "hedges" "[I" ∈ zTB := zTB_i1 110 (by decide +kernel)
theorem lkf_X3_21 : Cond.fieldLink RX3 21 "WeatherWages$Mill" "purses" "[I" ∈ zTB := zTB_i1 111 (by decide +kernel)
theorem lkf_X9_31 : Cond.fieldLink RX9 31 "WeatherWages$Mill" "purses" "[I" ∈ zTB := zTB_i1 112 (by decide +kernel)
theorem lkf_X4_106 : Cond.fieldLink RX4 106 "WeatherWages$Mill" "purses" "[I" ∈ zTB := zTB_i1 113 (by decide +kernel)
theorem lkf_X3_24 : Cond.fieldLink RX3 24 "WeatherWages$Mill" "wages" "[I" ∈ zTB := zTB_i1 114 (by decide +kernel)
theorem lkf_X4_116 : Cond.fieldLink RX4 116 "WeatherWages$Mill" "wages" "[I" ∈ zTB := zTB_i1 115 (by decide +kernel)
theorem lkf_X3_27 : Cond.fieldLink RX3 27 "WeatherWages$Mill" "given" "[I" ∈ zTB := zTB_i1 116 (by decide +kernel)
theorem lkf_X4_213 : Cond.fieldLink RX4 213 "WeatherWages$Mill" "given" "[I" ∈ zTB := zTB_i1 117 (by decide +kernel)
theorem lkf_X3_30 : Cond.fieldLink RX3 30 "WeatherWages$Mill" "got" "[I" ∈ zTB := zTB_i1 118 (by decide +kernel)
theorem lkf_X4_216 : Cond.fieldLink RX4 216 "WeatherWages$Mill" "got" "[I" ∈ zTB := zTB_i1 119 (by decide +kernel)
theorem lkf_X3_33 : Cond.fieldLink RX3 33 "WeatherWages$Mill" "bookTells" "[I" ∈ zTB := zTB_i1 120 (by decide +kernel)
theorem lkf_X8_88 : Cond.fieldLink RX8 88 "WeatherWages$Mill" "bookTells" "[I" ∈ zTB := zTB_i1 121 (by decide +kernel)
theorem lkf_X4_225 : Cond.fieldLink RX4 225 "WeatherWages$Mill" "bookTells" "[I" ∈ zTB := zTB_i1 122 (by decide +kernel)
theorem lkf_X3_39 : Cond.fieldLink RX3 39 "WeatherWages$Mill" "formula" "LWeatherWages$Formula;" ∈ zTB := zTB_i1 123 (by decide +kernel)
theorem lkf_X4_46 : Cond.fieldLink RX4 46 "WeatherWages$Mill" "formula" "LWeatherWages$Formula;" ∈ zTB := zTB_i1 124 (by decide +kernel)
theorem lkf_X9_104 : Cond.fieldLink RX9 104 "WeatherWages$Mill" "formula" "LWeatherWages$Formula;" ∈ zTB := zTB_i1 125 (by decide +kernel)
theorem lkf_X11_326 : Cond.fieldLink RX11 326 "WeatherWages$Mill" "formula" "LWeatherWages$Formula;" ∈ zTB := zTB_i1 126 (by decide +kernel)
theorem lkf_X6_9 : Cond.fieldLink RX6 9 "WeatherWages$Scanner" "tape" "LWeatherWages$Tape;" ∈ zTB := zTB_i1 164 (by decide +kernel)
theorem lkf_X6_44 : Cond.fieldLink RX6 44 "WeatherWages$Scanner" "sort" "I" ∈ zTB := zTB_i1 165 (by decide +kernel)
theorem lkf_X4_73 : Cond.fieldLink RX4 73 "WeatherWages$Scanner" "sort" "I" ∈ zTB := zTB_i1 166 (by decide +kernel)
theorem lkf_X2_53 : Cond.fieldLink RX2 53 "WeatherWages$Scanner" "sort" "I" ∈ zTB := zTB_i1 167 (by decide +kernel)
theorem lkf_X6_62 : Cond.fieldLink RX6 62 "WeatherWages$Scanner" "name" "J" ∈ zTB := zTB_i1 168 (by decide +kernel)
theorem lkf_X4_241 : Cond.fieldLink RX4 241 "WeatherWages$Scanner" "name" "J" ∈ zTB := zTB_i1 169 (by decide +kernel)
theorem lkf_X6_68 : Cond.fieldLink RX6 68 "WeatherWages$Scanner" "number" "I" ∈ zTB := zTB_i1 170 (by decide +kernel)
theorem lkf_X2_79 : Cond.fieldLink RX2 79 "WeatherWages$Scanner" "number" "I" ∈ zTB := zTB_i1 171 (by decide +kernel)
theorem lkf_X4_185 : Cond.fieldLink RX4 185 "WeatherWages$Scanner" "taken" "I" ∈ zTB := zTB_i1 172 (by decide +kernel)
theorem lkf_X6_129 : Cond.fieldLink RX6 129 "WeatherWages$Scanner" "taken" "I" ∈ zTB := zTB_i1 173 (by decide +kernel)
theorem lkf_X6_19 : Cond.fieldLink RX6 19 "WeatherWages$Scanner" "fault" "I" ∈ zTB := zTB_i1 174 (by decide +kernel)
theorem lkf_X4_57 : Cond.fieldLink RX4 57 "WeatherWages$Scanner" "fault" "I" ∈ zTB := zTB_i1 175 (by decide +kernel)
theorem lkf_X6_15 : Cond.fieldLink RX6 15 "WeatherWages$Scanner" "faultPlace" "I" ∈ zTB := zTB_i1 176 (by decide +kernel)
theorem lkf_X4_61 : Cond.fieldLink RX4 61 "WeatherWages$Scanner" "faultPlace" "I" ∈ zTB := zTB_i1 177 (by decide +kernel)
theorem lkf_X6_41 : Cond.fieldLink RX6 41 "WeatherWages$Scanner" "place" "I" ∈ zTB := zTB_i1 178 (by decide +kernel)
theorem lkf_X6_22 : Cond.fieldLink RX6 22 "WeatherWages$Scanner" "next" "I" ∈ zTB := zTB_i1 179 (by decide +kernel)
theorem lkf_X2_9 : Cond.fieldLink RX2 9 "WeatherWages$FormulaReader" "scanner" "LWeatherWages$Scanner;" ∈ zTB := zTB_i1 205 (by decide +kernel)
theorem lkf_X2_15 : Cond.fieldLink RX2 15 "WeatherWages$FormulaReader" "formula" "LWeatherWages$Formula;" ∈ zTB := zTB_i1 206 (by decide +kernel)
theorem lkf_X4_31 : Cond.fieldLink RX4 31 "WeatherWages$MillReader" "draft" "LWeatherWages$Mill;" ∈ zTB := zTB_i1 212 (by decide +kernel)
theorem lkf_X11_93 : Cond.fieldLink RX11 93 "WeatherWages$MillReader" "draft" "LWeatherWages$Mill;" ∈ zTB := zTB_i1 213 (by decide +kernel)
theorem lkf_X4_40 : Cond.fieldLink RX4 40 "WeatherWages$MillReader" "scanner" "LWeatherWages$Scanner;" ∈ zTB := zTB_i1 214 (by decide +kernel)
theorem lkf_X4_53 : Cond.fieldLink RX4 53 "WeatherWages$MillReader" "formulas" "LWeatherWages$FormulaReader;" ∈ zTB := zTB_i1 215 (by decide +kernel)
theorem lkf_X4_9 : Cond.fieldLink RX4 9 "WeatherWages$MillReader" "kindNames" "[J" ∈ zTB := zTB_i1 216 (by decide +kernel)
theorem lkf_X4_15 : Cond.fieldLink RX4 15 "WeatherWages$MillReader" "manNames" "[J" ∈ zTB := zTB_i1 217 (by decide +kernel)
theorem lkf_X4_18 : Cond.fieldLink RX4 18 "WeatherWages$MillReader" "purseTold" "[Z" ∈ zTB := zTB_i1 218 (by decide +kernel)
theorem lkf_X4_22 : Cond.fieldLink RX4 22 "WeatherWages$MillReader" "wageTold" "[Z" ∈ zTB := zTB_i1 219 (by decide +kernel)
theorem lkf_X4_25 : Cond.fieldLink RX4 25 "WeatherWages$MillReader" "hedgeTold" "[Z" ∈ zTB := zTB_i1 220 (by decide +kernel)
theorem lkf_X4_80 : Cond.fieldLink RX4 80 "WeatherWages$MillReader" "growTold" "Z" ∈ zTB := zTB_i1 221 (by decide +kernel)
theorem lkf_X4_84 : Cond.fieldLink RX4 84 "WeatherWages$MillReader" "hoursTold" "Z" ∈ zTB := zTB_i1 222 (by decide +kernel)
theorem lkf_X4_87 : Cond.fieldLink RX4 87 "WeatherWages$MillReader" "drawTold" "Z" ∈ zTB := zTB_i1 223 (by decide +kernel)
theorem lkf_X9_23 : Cond.fieldLink RX9 23 "WeatherWages$State" "mill" "LWeatherWages$Mill;" ∈ zTB := zTB_i2 15 (by decide +kernel)
theorem lkf_X9_11 : Cond.fieldLink RX9 11 "WeatherWages$State" "cells" "[I" ∈ zTB := zTB_i2 16 (by decide +kernel)
theorem lkf_X9_17 : Cond.fieldLink RX9 17 "WeatherWages$State" "leaves" "[I" ∈ zTB := zTB_i2 17 (by decide +kernel)
theorem lkf_X9_20 : Cond.fieldLink RX9 20 "WeatherWages$State" "noRows" "[I" ∈ zTB := zTB_i2 18 (by decide +kernel)
theorem lkf_X0_15 : Cond.fieldLink RX0 15 "WeatherWages$Acts" "now" "LWeatherWages$State;" ∈ zTB := zTB_i2 34 (by decide +kernel)
theorem lkf_X0_11 : Cond.fieldLink RX0 11 "WeatherWages$Acts" "store" "[I" ∈ zTB := zTB_i2 35 (by decide +kernel)
theorem lkf_X0_19 : Cond.fieldLink RX0 19 "WeatherWages$Acts" "first" "I" ∈ zTB := zTB_i2 36 (by decide +kernel)
theorem lkf_X0_23 : Cond.fieldLink RX0 23 "WeatherWages$Acts" "done" "I" ∈ zTB := zTB_i2 37 (by decide +kernel)
theorem lkf_X0_26 : Cond.fieldLink RX0 26 "WeatherWages$Acts" "kept" "I" ∈ zTB := zTB_i2 38 (by decide +kernel)
theorem lkf_X5_27 : Cond.fieldLink RX5 27 "WeatherWages$Planner" "mill" "LWeatherWages$Mill;" ∈ zTB := zTB_i2 58 (by decide +kernel)
theorem lkf_X5_31 : Cond.fieldLink RX5 31 "WeatherWages$Planner" "now" "LWeatherWages$State;" ∈ zTB := zTB_i2 59 (by decide +kernel)
theorem lkf_X5_40 : Cond.fieldLink RX5 40 "WeatherWages$Planner" "ahead" "LWeatherWages$State;" ∈ zTB := zTB_i2 60 (by decide +kernel)
theorem lkf_X5_9 : Cond.fieldLink RX5 9 "WeatherWages$Planner" "rows" "[I" ∈ zTB := zTB_i2 61 (by decide +kernel)
theorem lkf_X11_201 : Cond.fieldLink RX11 201 "WeatherWages$Planner" "rows" "[I" ∈ zTB := zTB_i2 62 (by decide +kernel)
theorem lkf_X5_15 : Cond.fieldLink RX5 15 "WeatherWages$Planner" "bestRows" "[I" ∈ zTB := zTB_i2 63 (by decide +kernel)
theorem lkf_X5_18 : Cond.fieldLink RX5 18 "WeatherWages$Planner" "roundAhead" "[I" ∈ zTB := zTB_i2 64 (by decide +kernel)
theorem lkf_X5_21 : Cond.fieldLink RX5 21 "WeatherWages$Planner" "limits" "[I" ∈ zTB := zTB_i2 65 (by decide +kernel)
theorem lkf_X5_24 : Cond.fieldLink RX5 24 "WeatherWages$Planner" "otherLimits" "[I" ∈ zTB := zTB_i2 66 (by decide +kernel)
theorem lkf_X5_68 : Cond.fieldLink RX5 68 "WeatherWages$Planner" "found" "Z" ∈ zTB := zTB_i2 67 (by decide +kernel)
theorem lkf_X5_101 : Cond.fieldLink RX5 101 "WeatherWages$Planner" "bestWorth" "I" ∈ zTB := zTB_i2 68 (by decide +kernel)
theorem lkf_X5_148 : Cond.fieldLink RX5 148 "WeatherWages$Planner" "bestHours" "I" ∈ zTB := zTB_i2 69 (by decide +kernel)
theorem lkf_X7_9 : Cond.fieldLink RX7 9 "WeatherWages$Shelf" "numbers" "[I" ∈ zTB := zTB_i2 99 (by decide +kernel)
theorem lkf_X7_15 : Cond.fieldLink RX7 15 "WeatherWages$Shelf" "count" "I" ∈ zTB := zTB_i2 100 (by decide +kernel)
theorem lkf_X11_335 : Cond.fieldLink RX11 335 "WeatherWages$Shelf" "count" "I" ∈ zTB := zTB_i2 101 (by decide +kernel)
theorem lkf_X8_39 : Cond.fieldLink RX8 39 "WeatherWages$Sights" "mill" "LWeatherWages$Mill;" ∈ zTB := zTB_i2 113 (by decide +kernel)
theorem lkf_X8_11 : Cond.fieldLink RX8 11 "WeatherWages$Sights" "men" "[I" ∈ zTB := zTB_i2 114 (by decide +kernel)
theorem lkf_X8_15 : Cond.fieldLink RX8 15 "WeatherWages$Sights" "others" "[I" ∈ zTB := zTB_i2 115 (by decide +kernel)
theorem lkf_X8_18 : Cond.fieldLink RX8 18 "WeatherWages$Sights" "numbers" "[I" ∈ zTB := zTB_i2 116 (by decide +kernel)
theorem lkf_X8_21 : Cond.fieldLink RX8 21 "WeatherWages$Sights" "is" "[I" ∈ zTB := zTB_i2 117 (by decide +kernel)
theorem lkf_X8_24 : Cond.fieldLink RX8 24 "WeatherWages$Sights" "toldAt" "[I" ∈ zTB := zTB_i2 118 (by decide +kernel)
theorem lkf_X8_27 : Cond.fieldLink RX8 27 "WeatherWages$Sights" "untoldAt" "[I" ∈ zTB := zTB_i2 119 (by decide +kernel)
theorem lkf_X8_43 : Cond.fieldLink RX8 43 "WeatherWages$Sights" "count" "I" ∈ zTB := zTB_i2 120 (by decide +kernel)
theorem lkf_X11_320 : Cond.fieldLink RX11 320 "WeatherWages$Sights" "count" "I" ∈ zTB := zTB_i2 121 (by decide +kernel)
theorem lkf_X8_51 : Cond.fieldLink RX8 51 "WeatherWages$Sights" "time" "I" ∈ zTB := zTB_i2 122 (by decide +kernel)
theorem lkf_X11_323 : Cond.fieldLink RX11 323 "WeatherWages$Sights" "time" "I" ∈ zTB := zTB_i2 123 (by decide +kernel)
theorem lkf_X8_30 : Cond.fieldLink RX8 30 "WeatherWages$Sights" "bookOf" "[I" ∈ zTB := zTB_i2 124 (by decide +kernel)
theorem lkf_X8_33 : Cond.fieldLink RX8 33 "WeatherWages$Sights" "bookGiven" "[I" ∈ zTB := zTB_i2 125 (by decide +kernel)
theorem lkf_X8_36 : Cond.fieldLink RX8 36 "WeatherWages$Sights" "tally" "[I" ∈ zTB := zTB_i2 126 (by decide +kernel)
theorem lkf_X8_59 : Cond.fieldLink RX8 59 "WeatherWages$Sights" "orderCount" "I" ∈ zTB := zTB_i2 127 (by decide +kernel)
theorem lkf_X11_12 : Cond.fieldLink RX11 12 "WeatherWages" "tape" "LWeatherWages$Tape;" ∈ zTB := zTB_i2 155 (by decide +kernel)
theorem lkf_X11_21 : Cond.fieldLink RX11 21 "WeatherWages" "reader" "LWeatherWages$MillReader;" ∈ zTB := zTB_i2 156 (by decide +kernel)
theorem lkf_X11_28 : Cond.fieldLink RX11 28 "WeatherWages" "mill" "LWeatherWages$Mill;" ∈ zTB := zTB_i2 157 (by decide +kernel)
theorem lkf_X11_37 : Cond.fieldLink RX11 37 "WeatherWages" "now" "LWeatherWages$State;" ∈ zTB := zTB_i2 158 (by decide +kernel)
theorem lkf_X11_46 : Cond.fieldLink RX11 46 "WeatherWages" "acts" "LWeatherWages$Acts;" ∈ zTB := zTB_i2 159 (by decide +kernel)
theorem lkf_X11_55 : Cond.fieldLink RX11 55 "WeatherWages" "planner" "LWeatherWages$Planner;" ∈ zTB := zTB_i2 160 (by decide +kernel)
theorem lkf_X11_62 : Cond.fieldLink RX11 62 "WeatherWages" "shelf" "LWeatherWages$Shelf;" ∈ zTB := zTB_i2 161 (by decide +kernel)
theorem lkf_X11_69 : Cond.fieldLink RX11 69 "WeatherWages" "sights" "LWeatherWages$Sights;" ∈ zTB := zTB_i2 162 (by decide +kernel)
theorem lkf_X11_73 : Cond.fieldLink RX11 73 "WeatherWages" "boxes" "[I" ∈ zTB := zTB_i2 163 (by decide +kernel)
theorem lkf_X11_77 : Cond.fieldLink RX11 77 "WeatherWages" "boxKept" "[Z" ∈ zTB := zTB_i2 164 (by decide +kernel)
theorem lkf_X3_115 : Cond.fieldLink RX3 115 "WeatherWages$Mill" "ROUNDS" "[I" ∈ zTB := zTB_i5 188 (by decide +kernel)
theorem lkf_X12_7 : Cond.fieldLink RX12 7 "WeatherWagesModel" "tape" "[B" ∈ zTB := zTB_i6 108 (by decide +kernel)
theorem lkf_X12_13 : Cond.fieldLink RX12 13 "WeatherWagesModel" "text" "[B" ∈ zTB := zTB_i6 109 (by decide +kernel)
theorem lkf_X12_298 : Cond.fieldLink RX12 298 "WeatherWagesModel" "taped" "I" ∈ zTB := zTB_i6 110 (by decide +kernel)
theorem lkf_X12_185 : Cond.fieldLink RX12 185 "WeatherWagesModel" "size" "I" ∈ zTB := zTB_i6 111 (by decide +kernel)
theorem lkf_X12_188 : Cond.fieldLink RX12 188 "WeatherWagesModel" "faultKind" "I" ∈ zTB := zTB_i6 112 (by decide +kernel)
theorem lkf_X12_16 : Cond.fieldLink RX12 16 "WeatherWagesModel" "faultPlace" "I" ∈ zTB := zTB_i6 113 (by decide +kernel)
theorem lkf_X12_236 : Cond.fieldLink RX12 236 "WeatherWagesModel" "at" "I" ∈ zTB := zTB_i6 114 (by decide +kernel)
theorem lkf_X12_233 : Cond.fieldLink RX12 233 "WeatherWagesModel" "end" "I" ∈ zTB := zTB_i6 115 (by decide +kernel)
theorem lkf_X12_243 : Cond.fieldLink RX12 243 "WeatherWagesModel" "token" "I" ∈ zTB := zTB_i6 116 (by decide +kernel)
theorem lkf_X12_261 : Cond.fieldLink RX12 261 "WeatherWagesModel" "number" "I" ∈ zTB := zTB_i6 117 (by decide +kernel)
theorem lkf_X12_250 : Cond.fieldLink RX12 250 "WeatherWagesModel" "name" "J" ∈ zTB := zTB_i6 118 (by decide +kernel)
theorem lkf_X12_20 : Cond.fieldLink RX12 20 "WeatherWagesModel" "kinds" "[I" ∈ zTB := zTB_i6 119 (by decide +kernel)
theorem lkf_X12_24 : Cond.fieldLink RX12 24 "WeatherWagesModel" "men" "[I" ∈ zTB := zTB_i6 120 (by decide +kernel)
theorem lkf_X12_27 : Cond.fieldLink RX12 27 "WeatherWagesModel" "books" "[I" ∈ zTB := zTB_i6 121 (by decide +kernel)
theorem lkf_X12_30 : Cond.fieldLink RX12 30 "WeatherWagesModel" "rates" "[I" ∈ zTB := zTB_i6 122 (by decide +kernel)
theorem lkf_X12_33 : Cond.fieldLink RX12 33 "WeatherWagesModel" "units" "[I" ∈ zTB := zTB_i6 123 (by decide +kernel)
theorem lkf_X12_36 : Cond.fieldLink RX12 36 "WeatherWagesModel" "hours" "[I" ∈ zTB := zTB_i6 124 (by decide +kernel)
theorem lkf_X12_39 : Cond.fieldLink RX12 39 "WeatherWagesModel" "draw" "[I" ∈ zTB := zTB_i6 125 (by decide +kernel)
theorem lkf_X12_42 : Cond.fieldLink RX12 42 "WeatherWagesModel" "isLoose" "[I" ∈ zTB := zTB_i6 126 (by decide +kernel)
theorem lkf_X12_45 : Cond.fieldLink RX12 45 "WeatherWagesModel" "isHedged" "[I" ∈ zTB := zTB_i6 127 (by decide +kernel)
theorem lkf_X12_48 : Cond.fieldLink RX12 48 "WeatherWagesModel" "cropTold" "[I" ∈ zTB := zTB_i6 128 (by decide +kernel)
theorem lkf_X12_51 : Cond.fieldLink RX12 51 "WeatherWagesModel" "hedge" "[I" ∈ zTB := zTB_i6 129 (by decide +kernel)
theorem lkf_X12_54 : Cond.fieldLink RX12 54 "WeatherWagesModel" "purseTold" "[I" ∈ zTB := zTB_i6 130 (by decide +kernel)
theorem lkf_X12_57 : Cond.fieldLink RX12 57 "WeatherWagesModel" "payTold" "[I" ∈ zTB := zTB_i6 131 (by decide +kernel)
theorem lkf_X12_60 : Cond.fieldLink RX12 60 "WeatherWagesModel" "isPurse" "[I" ∈ zTB := zTB_i6 132 (by decide +kernel)
theorem lkf_X12_63 : Cond.fieldLink RX12 63 "WeatherWagesModel" "isPay" "[I" ∈ zTB := zTB_i6 133 (by decide +kernel)
theorem lkf_X12_66 : Cond.fieldLink RX12 66 "WeatherWagesModel" "rateOf" "[I" ∈ zTB := zTB_i6 134 (by decide +kernel)
theorem lkf_X12_69 : Cond.fieldLink RX12 69 "WeatherWagesModel" "rateFor" "[I" ∈ zTB := zTB_i6 135 (by decide +kernel)
theorem lkf_X12_72 : Cond.fieldLink RX12 72 "WeatherWagesModel" "book" "[I" ∈ zTB := zTB_i6 136 (by decide +kernel)
theorem lkf_X12_75 : Cond.fieldLink RX12 75 "WeatherWagesModel" "ruleFrom" "[I" ∈ zTB := zTB_i6 137 (by decide +kernel)
theorem lkf_X12_78 : Cond.fieldLink RX12 78 "WeatherWagesModel" "ruleTo" "[I" ∈ zTB := zTB_i6 138 (by decide +kernel)
theorem lkf_X12_81 : Cond.fieldLink RX12 81 "WeatherWagesModel" "hasGrow" "[Z" ∈ zTB := zTB_i6 139 (by decide +kernel)
theorem lkf_X12_85 : Cond.fieldLink RX12 85 "WeatherWagesModel" "hasHours" "[Z" ∈ zTB := zTB_i6 140 (by decide +kernel)
theorem lkf_X12_88 : Cond.fieldLink RX12 88 "WeatherWagesModel" "isDraw" "[Z" ∈ zTB := zTB_i6 141 (by decide +kernel)
theorem lkf_X12_91 : Cond.fieldLink RX12 91 "WeatherWagesModel" "kName" "[J" ∈ zTB := zTB_i6 142 (by decide +kernel)
theorem lkf_X12_95 : Cond.fieldLink RX12 95 "WeatherWagesModel" "mName" "[J" ∈ zTB := zTB_i6 143 (by decide +kernel)
theorem lkf_X12_98 : Cond.fieldLink RX12 98 "WeatherWagesModel" "code" "[I" ∈ zTB := zTB_i6 144 (by decide +kernel)
theorem lkf_X12_101 : Cond.fieldLink RX12 101 "WeatherWagesModel" "codeNumber" "[I" ∈ zTB := zTB_i6 145 (by decide +kernel)
theorem lkf_X12_104 : Cond.fieldLink RX12 104 "WeatherWagesModel" "eWhat" "[I" ∈ zTB := zTB_i6 146 (by decide +kernel)
theorem lkf_X12_107 : Cond.fieldLink RX12 107 "WeatherWagesModel" "eSign" "[I" ∈ zTB := zTB_i6 147 (by decide +kernel)
theorem lkf_X12_110 : Cond.fieldLink RX12 110 "WeatherWagesModel" "pile" "[I" ∈ zTB := zTB_i6 148 (by decide +kernel)
theorem lkf_X12_301 : Cond.fieldLink RX12 301 "WeatherWagesModel" "bank" "I" ∈ zTB := zTB_i6 149 (by decide +kernel)
theorem lkf_X12_292 : Cond.fieldLink RX12 292 "WeatherWagesModel" "rb" "I" ∈ zTB := zTB_i6 150 (by decide +kernel)
theorem lkf_X12_295 : Cond.fieldLink RX12 295 "WeatherWagesModel" "codes" "I" ∈ zTB := zTB_i6 151 (by decide +kernel)
theorem lkf_X12_361 : Cond.fieldLink RX12 361 "WeatherWagesModel" "within" "I" ∈ zTB := zTB_i6 152 (by decide +kernel)
theorem lkf_X12_358 : Cond.fieldLink RX12 358 "WeatherWagesModel" "piled" "I" ∈ zTB := zTB_i6 153 (by decide +kernel)
theorem lkf_X12_352 : Cond.fieldLink RX12 352 "WeatherWagesModel" "unitsInRule" "I" ∈ zTB := zTB_i6 154 (by decide +kernel)
theorem lkf_X12_385 : Cond.fieldLink RX12 385 "WeatherWagesModel" "askMan" "I" ∈ zTB := zTB_i6 155 (by decide +kernel)
theorem lkf_X12_113 : Cond.fieldLink RX12 113 "WeatherWagesModel" "all" "[I" ∈ zTB := zTB_i6 156 (by decide +kernel)
theorem lkf_X12_116 : Cond.fieldLink RX12 116 "WeatherWagesModel" "was" "[I" ∈ zTB := zTB_i6 157 (by decide +kernel)
theorem lkf_X12_405 : Cond.fieldLink RX12 405 "WeatherWagesModel" "acts" "I" ∈ zTB := zTB_i6 158 (by decide +kernel)
theorem lkf_X12_408 : Cond.fieldLink RX12 408 "WeatherWagesModel" "undone" "I" ∈ zTB := zTB_i6 159 (by decide +kernel)
theorem lkf_X12_119 : Cond.fieldLink RX12 119 "WeatherWagesModel" "row" "[I" ∈ zTB := zTB_i6 160 (by decide +kernel)
theorem lkf_X12_122 : Cond.fieldLink RX12 122 "WeatherWagesModel" "bestRow" "[I" ∈ zTB := zTB_i6 161 (by decide +kernel)
theorem lkf_X12_125 : Cond.fieldLink RX12 125 "WeatherWagesModel" "laidRow" "[I" ∈ zTB := zTB_i6 162 (by decide +kernel)
theorem lkf_X12_414 : Cond.fieldLink RX12 414 "WeatherWagesModel" "laid" "I" ∈ zTB := zTB_i6 163 (by decide +kernel)
theorem lkf_X12_481 : Cond.fieldLink RX12 481 "WeatherWagesModel" "bestHours" "I" ∈ zTB := zTB_i6 164 (by decide +kernel)
theorem lkf_X12_487 : Cond.fieldLink RX12 487 "WeatherWagesModel" "bestGrowth" "I" ∈ zTB := zTB_i6 165 (by decide +kernel)
theorem lkf_X12_128 : Cond.fieldLink RX12 128 "WeatherWagesModel" "mostOf" "[I" ∈ zTB := zTB_i6 166 (by decide +kernel)
theorem lkf_X12_131 : Cond.fieldLink RX12 131 "WeatherWagesModel" "firstRow" "[I" ∈ zTB := zTB_i6 167 (by decide +kernel)
theorem lkf_X12_134 : Cond.fieldLink RX12 134 "WeatherWagesModel" "bothOf" "[I" ∈ zTB := zTB_i6 168 (by decide +kernel)
theorem lkf_X12_137 : Cond.fieldLink RX12 137 "WeatherWagesModel" "restOf" "[I" ∈ zTB := zTB_i6 169 (by decide +kernel)
theorem lkf_X12_507 : Cond.fieldLink RX12 507 "WeatherWagesModel" "poolHours" "I" ∈ zTB := zTB_i6 170 (by decide +kernel)
theorem lkf_X12_510 : Cond.fieldLink RX12 510 "WeatherWagesModel" "poolGrowth" "I" ∈ zTB := zTB_i6 171 (by decide +kernel)
theorem lkf_X12_140 : Cond.fieldLink RX12 140 "WeatherWagesModel" "kept" "[I" ∈ zTB := zTB_i6 172 (by decide +kernel)
theorem lkf_X12_143 : Cond.fieldLink RX12 143 "WeatherWagesModel" "laidKept" "[I" ∈ zTB := zTB_i6 173 (by decide +kernel)
theorem lkf_X12_146 : Cond.fieldLink RX12 146 "WeatherWagesModel" "spends" "[I" ∈ zTB := zTB_i6 174 (by decide +kernel)
theorem lkf_X12_540 : Cond.fieldLink RX12 540 "WeatherWagesModel" "gainUpper" "I" ∈ zTB := zTB_i6 175 (by decide +kernel)
theorem lkf_X12_537 : Cond.fieldLink RX12 537 "WeatherWagesModel" "gainLower" "I" ∈ zTB := zTB_i6 176 (by decide +kernel)
theorem lkf_X12_543 : Cond.fieldLink RX12 543 "WeatherWagesModel" "gainRound" "I" ∈ zTB := zTB_i6 177 (by decide +kernel)
theorem lkf_X12_149 : Cond.fieldLink RX12 149 "WeatherWagesModel" "sMan" "[I" ∈ zTB := zTB_i6 178 (by decide +kernel)
theorem lkf_X12_152 : Cond.fieldLink RX12 152 "WeatherWagesModel" "sOther" "[I" ∈ zTB := zTB_i6 179 (by decide +kernel)
theorem lkf_X12_155 : Cond.fieldLink RX12 155 "WeatherWagesModel" "sNumber" "[I" ∈ zTB := zTB_i6 180 (by decide +kernel)
theorem lkf_X12_158 : Cond.fieldLink RX12 158 "WeatherWagesModel" "sIs" "[I" ∈ zTB := zTB_i6 181 (by decide +kernel)
theorem lkf_X12_161 : Cond.fieldLink RX12 161 "WeatherWagesModel" "sTold" "[I" ∈ zTB := zTB_i6 182 (by decide +kernel)
theorem lkf_X12_164 : Cond.fieldLink RX12 164 "WeatherWagesModel" "sUntold" "[I" ∈ zTB := zTB_i6 183 (by decide +kernel)
theorem lkf_X12_167 : Cond.fieldLink RX12 167 "WeatherWagesModel" "bookOf" "[I" ∈ zTB := zTB_i6 184 (by decide +kernel)
theorem lkf_X12_170 : Cond.fieldLink RX12 170 "WeatherWagesModel" "byBook" "[I" ∈ zTB := zTB_i6 185 (by decide +kernel)
theorem lkf_X12_411 : Cond.fieldLink RX12 411 "WeatherWagesModel" "sights" "I" ∈ zTB := zTB_i6 186 (by decide +kernel)
theorem lkf_X12_555 : Cond.fieldLink RX12 555 "WeatherWagesModel" "time" "I" ∈ zTB := zTB_i6 187 (by decide +kernel)
theorem lkf_X12_569 : Cond.fieldLink RX12 569 "WeatherWagesModel" "fitting" "I" ∈ zTB := zTB_i6 188 (by decide +kernel)
theorem lkf_X12_173 : Cond.fieldLink RX12 173 "WeatherWagesModel" "boxAll" "[I" ∈ zTB := zTB_i6 189 (by decide +kernel)
theorem lkf_X12_176 : Cond.fieldLink RX12 176 "WeatherWagesModel" "isBoxed" "[Z" ∈ zTB := zTB_i6 190 (by decide +kernel)
theorem lkm_X11_85 : Cond.methodLink RX11 85 yX10_append ∈ zTB := zTB_i2 190 (by decide +kernel)
theorem lkm_X11_89 : Cond.methodLink RX11 89 yX4_readMill ∈ zTB := zTB_i2 202 (by decide +kernel)
theorem lkm_X4_64 : Cond.methodLink RX4 64 yX3_clear ∈ zTB := zTB_i2 206 (by decide +kernel)
theorem lkm_X3_62 : (RX3, 62, yX11_put, "WeatherWages") ∈ zNest := List.mem_of_getElem? (i := 3) (by decide +kernel)
theorem lkm_X3_66 : Cond.methodLink RX3 66 yX1_clear ∈ zTB := zTB_i2 213 (by decide +kernel)
theorem lkm_X4_67 : Cond.methodLink RX4 67 yX4_forgetTold ∈ zTB := zTB_i2 217 (by decide +kernel)
theorem lkm_X4_70 : Cond.methodLink RX4 70 yX6_begin ∈ zTB := zTB_i2 221 (by decide +kernel)
theorem lkm_X6_25 : Cond.methodLink RX6 25 yX6_step ∈ zTB := zTB_i2 225 (by decide +kernel)
theorem lkm_X6_33 : Cond.methodLink RX6 33 yX10_byteAt ∈ zTB := zTB_i2 229 (by decide +kernel)
theorem lkm_X6_37 : Cond.methodLink RX6 37 yX6_isBlank ∈ zTB := zTB_i2 233 (by decide +kernel)
theorem lkm_X6_47 : Cond.methodLink RX6 47 yX6_isLetter ∈ zTB := zTB_i2 236 (by decide +kernel)
theorem lkm_X6_50 : Cond.methodLink RX6 50 yX6_stepWord ∈ zTB := zTB_i2 239 (by decide +kernel)
theorem lkm_X6_53 : Cond.methodLink RX6 53 yX6_isDigit ∈ zTB := zTB_i3 4 (by decide +kernel)
theorem lkm_X6_56 : Cond.methodLink RX6 56 yX6_stepNumber ∈ zTB := zTB_i3 7 (by decide +kernel)
theorem lkm_X6_59 : Cond.methodLink RX6 59 yX6_isSign ∈ zTB := zTB_i3 11 (by decide +kernel)
theorem lkm_X4_76 : Cond.methodLink RX4 76 yX4_readLine ∈ zTB := zTB_i3 14 (by decide +kernel)
theorem lkm_X4_92 : Cond.methodLink RX4 92 yX6_says ∈ zTB := zTB_i3 19 (by decide +kernel)
theorem lkm_X6_71 : Cond.methodLink RX6 71 yJ0_length_8abf5 ∈ zTB := zTB_i3 23 (by decide +kernel)
theorem lkm_X6_76 : Cond.methodLink RX6 76 yJ0_charAt_5068e ∈ zTB := zTB_i3 33 (by decide +kernel)
theorem lkm_X4_96 : Cond.methodLink RX4 96 yX4_readKind ∈ zTB := zTB_i3 71 (by decide +kernel)
theorem lkm_X4_159 : Cond.methodLink RX4 159 yX4_begins ∈ zTB := zTB_i3 75 (by decide +kernel)
theorem lkm_X4_149 : Cond.methodLink RX4 149 yX6_refuse ∈ zTB := zTB_i3 79 (by decide +kernel)
theorem lkm_X4_153 : Cond.methodLink RX4 153 yX6_step ∈ zTB := zTB_i3 83 (by decide +kernel)
theorem lkm_X4_163 : Cond.methodLink RX4 163 yX4_newName ∈ zTB := zTB_i3 84 (by decide +kernel)
theorem lkm_X4_235 : Cond.methodLink RX4 235 yX6_isName ∈ zTB := zTB_i3 88 (by decide +kernel)
theorem lkm_X6_82 : Cond.methodLink RX6 82 yX6_says ∈ zTB := zTB_i3 93 (by decide +kernel)
theorem lkm_X4_238 : Cond.methodLink RX4 238 yX4_search ∈ zTB := zTB_i3 114 (by decide +kernel)
theorem lkm_X4_167 : Cond.methodLink RX4 167 yX6_takesSign ∈ zTB := zTB_i3 118 (by decide +kernel)
theorem lkm_X6_126 : Cond.methodLink RX6 126 yX6_refuse ∈ zTB := zTB_i3 122 (by decide +kernel)
theorem lkm_X4_101 : Cond.methodLink RX4 101 yX4_readMan ∈ zTB := zTB_i3 124 (by decide +kernel)
theorem lkm_X4_175 : Cond.methodLink RX4 175 yX6_takesWord ∈ zTB := zTB_i3 129 (by decide +kernel)
theorem lkm_X4_178 : Cond.methodLink RX4 178 yX6_takesNumber ∈ zTB := zTB_i3 133 (by decide +kernel)
theorem lkm_X4_188 : (RX4, 188, yX11_put, "WeatherWages") ∈ zNest := List.mem_of_getElem? (i := 4) (by decide +kernel)
theorem lkm_X4_110 : Cond.methodLink RX4 110 yX4_readHours ∈ zTB := zTB_i3 140 (by decide +kernel)
theorem lkm_X4_196 : Cond.methodLink RX4 196 yX4_placeOfName ∈ zTB := zTB_i3 144 (by decide +kernel)
theorem lkm_X4_200 : Cond.methodLink RX4 200 yX4_tellsOnce ∈ zTB := zTB_i3 148 (by decide +kernel)
theorem lkm_X4_121 : Cond.methodLink RX4 121 yX4_readHedge ∈ zTB := zTB_i3 154 (by decide +kernel)
theorem lkm_X4_126 : Cond.methodLink RX4 126 yX4_readRate ∈ zTB := zTB_i3 159 (by decide +kernel)
theorem lkm_X4_209 : Cond.methodLink RX4 209 yX3_rateGiven ∈ zTB := zTB_i3 164 (by decide +kernel)
theorem lkm_X3_94 : (RX3, 94, yX11_cell, "WeatherWages") ∈ zNest := List.mem_of_getElem? (i := 5) (by decide +kernel)
theorem lkm_X4_131 : Cond.methodLink RX4 131 yX4_readBook ∈ zTB := zTB_i3 172 (by decide +kernel)
theorem lkm_X4_136 : Cond.methodLink RX4 136 yX4_readGrow ∈ zTB := zTB_i3 177 (by decide +kernel)
theorem lkm_X4_228 : (RX4, 228, yX2_readEither, "WeatherWages") ∈ zNest := List.mem_of_getElem? (i := 6) (by decide +kernel)
theorem lkm_X2_19 : Cond.methodLink RX2 19 yX2_readBoth ∈ zTB := zTB_i3 185 (by decide +kernel)
theorem lkm_X2_40 : Cond.methodLink RX2 40 yX2_readOne ∈ zTB := zTB_i3 189 (by decide +kernel)
theorem lkm_X2_25 : Cond.methodLink RX2 25 yX6_says ∈ zTB := zTB_i3 194 (by decide +kernel)
theorem lkm_X2_47 : Cond.methodLink RX2 47 yX6_refuse ∈ zTB := zTB_i3 195 (by decide +kernel)
theorem lkm_X2_31 : Cond.methodLink RX2 31 yX6_step ∈ zTB := zTB_i3 196 (by decide +kernel)
theorem lkm_X2_36 : Cond.methodLink RX2 36 yX1_write ∈ zTB := zTB_i3 197 (by decide +kernel)
theorem lkm_X2_50 : Cond.methodLink RX2 50 yX2_readSum ∈ zTB := zTB_i3 201 (by decide +kernel)
theorem lkm_X2_57 : Cond.methodLink RX2 57 yX2_readTerm ∈ zTB := zTB_i3 205 (by decide +kernel)
theorem lkm_X2_63 : Cond.methodLink RX2 63 yX2_readUnit ∈ zTB := zTB_i3 209 (by decide +kernel)
theorem lkm_X2_69 : Cond.methodLink RX2 69 yX2_leafTold ∈ zTB := zTB_i3 213 (by decide +kernel)
theorem lkm_X2_76 : Cond.methodLink RX2 76 yX2_readEither ∈ zTB := zTB_i3 223 (by decide +kernel)
theorem lkm_X2_66 : Cond.methodLink RX2 66 yX2_isTermSign ∈ zTB := zTB_i3 224 (by decide +kernel)
theorem lkm_X2_60 : Cond.methodLink RX2 60 yX2_isSumSign ∈ zTB := zTB_i3 227 (by decide +kernel)
theorem lkm_X4_141 : Cond.methodLink RX4 141 yX4_readHoursOfWeek ∈ zTB := zTB_i3 233 (by decide +kernel)
theorem lkm_X4_146 : Cond.methodLink RX4 146 yX4_readDraw ∈ zTB := zTB_i3 238 (by decide +kernel)
theorem lkm_X11_96 : Cond.methodLink RX11 96 yX3_become ∈ zTB := zTB_i4 2 (by decide +kernel)
theorem lkm_X3_69 : (RX3, 69, yX11_copyInts, "WeatherWages") ∈ zNest := List.mem_of_getElem? (i := 7) (by decide +kernel)
theorem lkm_X11_247 : Cond.methodLink RX11 247 Lib.Math.min.name ∈ zTB := zTB_i4 9 (by decide +kernel)
theorem lkm_X11_336 : Cond.methodLink RX11 336 arraycopyName ∈ zTB := zTB_i4 12 (by decide +kernel)
theorem lkm_X3_73 : Cond.methodLink RX3 73 yX1_become ∈ zTB := zTB_i4 15 (by decide +kernel)
theorem lkm_X1_23 : (RX1, 23, yX11_copyInts, "WeatherWages") ∈ zNest := List.mem_of_getElem? (i := 8) (by decide +kernel)
theorem lkm_X11_99 : Cond.methodLink RX11 99 yX9_begin ∈ zTB := zTB_i4 20 (by decide +kernel)
theorem lkm_X9_27 : (RX9, 27, yX11_put, "WeatherWages") ∈ zNest := List.mem_of_getElem? (i := 9) (by decide +kernel)
theorem lkm_X9_36 : (RX9, 36, yX11_cell, "WeatherWages") ∈ zNest := List.mem_of_getElem? (i := 10) (by decide +kernel)
theorem lkm_X11_102 : Cond.methodLink RX11 102 yX0_forget ∈ zTB := zTB_i4 26 (by decide +kernel)
theorem lkm_X0_29 : Cond.methodLink RX0 29 yX9_saveTo ∈ zTB := zTB_i4 30 (by decide +kernel)
theorem lkm_X9_54 : Cond.methodLink RX9 54 arraycopyName ∈ zTB := zTB_i4 34 (by decide +kernel)
theorem lkm_X11_105 : Cond.methodLink RX11 105 yX7_clear ∈ zTB := zTB_i4 35 (by decide +kernel)
theorem lkm_X11_108 : Cond.methodLink RX11 108 yX8_forget ∈ zTB := zTB_i4 39 (by decide +kernel)
theorem lkm_X11_112 : Cond.methodLink RX11 112 yX4_faultFound ∈ zTB := zTB_i4 47 (by decide +kernel)
theorem lkm_X11_116 : Cond.methodLink RX11 116 yX4_faultPlace ∈ zTB := zTB_i4 51 (by decide +kernel)
theorem lkm_X11_119 : Cond.methodLink RX11 119 yX3_hasMan ∈ zTB := zTB_i4 59 (by decide +kernel)
theorem lkm_X11_124 : Cond.methodLink RX11 124 yX9_cropOf ∈ zTB := zTB_i4 64 (by decide +kernel)
theorem lkm_X11_128 : Cond.methodLink RX11 128 yX9_spentBy ∈ zTB := zTB_i4 68 (by decide +kernel)
theorem lkm_X11_131 : Cond.methodLink RX11 131 yX9_growthOf ∈ zTB := zTB_i4 72 (by decide +kernel)
theorem lkm_X9_94 : Cond.methodLink RX9 94 yX9_growthWith ∈ zTB := zTB_i4 76 (by decide +kernel)
theorem lkm_X9_87 : Cond.methodLink RX9 87 yX9_overAt ∈ zTB := zTB_i4 80 (by decide +kernel)
theorem lkm_X9_90 : Cond.methodLink RX9 90 yX3_reach ∈ zTB := zTB_i4 84 (by decide +kernel)
theorem lkm_X3_84 : Cond.methodLink RX3 84 Lib.Math.min.name ∈ zTB := zTB_i4 88 (by decide +kernel)
theorem lkm_X9_97 : Cond.methodLink RX9 97 yX9_cropOf ∈ zTB := zTB_i4 89 (by decide +kernel)
theorem lkm_X9_100 : Cond.methodLink RX9 100 yX9_weekNow ∈ zTB := zTB_i4 90 (by decide +kernel)
theorem lkm_X9_108 : Cond.methodLink RX9 108 yX1_worth ∈ zTB := zTB_i4 94 (by decide +kernel)
theorem lkm_X1_29 : (RX1, 29, yX11_cell, "WeatherWages") ∈ zNest := List.mem_of_getElem? (i := 11) (by decide +kernel)
theorem lkm_X1_33 : (RX1, 33, yX11_put, "WeatherWages") ∈ zNest := List.mem_of_getElem? (i := 12) (by decide +kernel)
theorem lkm_X1_37 : Cond.methodLink RX1 37 yX1_joined ∈ zTB := zTB_i4 100 (by decide +kernel)
theorem lkm_X9_74 : Cond.methodLink RX9 74 Lib.Math.min.name ∈ zTB := zTB_i4 103 (by decide +kernel)
theorem lkm_X9_112 : Cond.methodLink RX9 112 Lib.Math.max.name ∈ zTB := zTB_i4 104 (by decide +kernel)
theorem lkm_X11_134 : Cond.methodLink RX11 134 yX9_purseSum ∈ zTB := zTB_i4 107 (by decide +kernel)
theorem lkm_X9_70 : Cond.methodLink RX9 70 yX9_purseOf ∈ zTB := zTB_i4 111 (by decide +kernel)
theorem lkm_X11_137 : Cond.methodLink RX11 137 yX3_wageSum ∈ zTB := zTB_i4 115 (by decide +kernel)
theorem lkm_X3_98 : Cond.methodLink RX3 98 yX3_wageOf ∈ zTB := zTB_i4 119 (by decide +kernel)
theorem lkm_X11_143 : Cond.methodLink RX11 143 yX11_cell ∈ zTB := zTB_i4 123 (by decide +kernel)
theorem lkm_X11_147 : Cond.methodLink RX11 147 yX3_isLoose ∈ zTB := zTB_i4 124 (by decide +kernel)
theorem lkm_X11_150 : Cond.methodLink RX11 150 yX3_hasPair ∈ zTB := zTB_i4 132 (by decide +kernel)
theorem lkm_X3_77 : Cond.methodLink RX3 77 yX3_hasMan ∈ zTB := zTB_i4 136 (by decide +kernel)
theorem lkm_X3_81 : Cond.methodLink RX3 81 yX3_hasKind ∈ zTB := zTB_i4 137 (by decide +kernel)
theorem lkm_X11_154 : Cond.methodLink RX11 154 yX9_purseOf ∈ zTB := zTB_i4 141 (by decide +kernel)
theorem lkm_X11_158 : Cond.methodLink RX11 158 yX9_overAt ∈ zTB := zTB_i4 146 (by decide +kernel)
theorem lkm_X11_161 : Cond.methodLink RX11 161 yX3_wageOf ∈ zTB := zTB_i4 151 (by decide +kernel)
theorem lkm_X11_164 : Cond.methodLink RX11 164 yX3_hasKind ∈ zTB := zTB_i4 156 (by decide +kernel)
theorem lkm_X11_167 : Cond.methodLink RX11 167 yX9_leftOf ∈ zTB := zTB_i4 161 (by decide +kernel)
theorem lkm_X9_63 : Cond.methodLink RX9 63 yX9_spentBy ∈ zTB := zTB_i4 165 (by decide +kernel)
theorem lkm_X11_170 : Cond.methodLink RX11 170 yX9_spendHours ∈ zTB := zTB_i4 170 (by decide +kernel)
theorem lkm_X9_79 : Cond.methodLink RX9 79 yX9_addToPurse ∈ zTB := zTB_i4 174 (by decide +kernel)
theorem lkm_X9_83 : Cond.methodLink RX9 83 yX3_hasMan ∈ zTB := zTB_i4 178 (by decide +kernel)
theorem lkm_X11_174 : Cond.methodLink RX11 174 yX0_keep ∈ zTB := zTB_i4 179 (by decide +kernel)
theorem lkm_X0_33 : Cond.methodLink RX0 33 yX0_slotOfNow ∈ zTB := zTB_i4 183 (by decide +kernel)
theorem lkm_X11_177 : Cond.methodLink RX11 177 yX9_addToPurse ∈ zTB := zTB_i4 191 (by decide +kernel)
theorem lkm_X11_180 : Cond.methodLink RX11 180 yX3_rateGiven ∈ zTB := zTB_i4 196 (by decide +kernel)
theorem lkm_X11_183 : Cond.methodLink RX11 183 yX3_rateGot ∈ zTB := zTB_i4 197 (by decide +kernel)
theorem lkm_X11_186 : Cond.methodLink RX11 186 yX9_weekNow ∈ zTB := zTB_i4 205 (by decide +kernel)
theorem lkm_X11_189 : Cond.methodLink RX11 189 yX9_goWeek ∈ zTB := zTB_i4 206 (by decide +kernel)
theorem lkm_X9_115 : Cond.methodLink RX9 115 yX9_spendLoose ∈ zTB := zTB_i4 210 (by decide +kernel)
theorem lkm_X9_124 : Cond.methodLink RX9 124 yX3_isLoose ∈ zTB := zTB_i4 214 (by decide +kernel)
theorem lkm_X9_127 : Cond.methodLink RX9 127 yX9_seedNow ∈ zTB := zTB_i4 215 (by decide +kernel)
theorem lkm_X9_130 : Cond.methodLink RX9 130 yX9_spendHours ∈ zTB := zTB_i4 219 (by decide +kernel)
theorem lkm_X9_118 : Cond.methodLink RX9 118 yX9_growthOf ∈ zTB := zTB_i4 220 (by decide +kernel)
theorem lkm_X9_121 : Cond.methodLink RX9 121 yX3_wageOf ∈ zTB := zTB_i4 221 (by decide +kernel)
theorem lkm_X11_192 : Cond.methodLink RX11 192 yX0_goBack ∈ zTB := zTB_i4 226 (by decide +kernel)
theorem lkm_X0_37 : Cond.methodLink RX0 37 yX9_loadFrom ∈ zTB := zTB_i4 230 (by decide +kernel)
theorem lkm_X11_195 : Cond.methodLink RX11 195 yX0_goOn ∈ zTB := zTB_i4 238 (by decide +kernel)
theorem lkm_X11_198 : Cond.methodLink RX11 198 yX5_findBest ∈ zTB := zTB_i5 6 (by decide +kernel)
theorem lkm_X5_43 : Cond.methodLink RX5 43 yX5_clearRows ∈ zTB := zTB_i5 10 (by decide +kernel)
theorem lkm_X5_85 : (RX5, 85, yX11_put, "WeatherWages") ∈ zNest := List.mem_of_getElem? (i := 13) (by decide +kernel)
theorem lkm_X5_46 : Cond.methodLink RX5 46 yX5_seek ∈ zTB := zTB_i5 15 (by decide +kernel)
theorem lkm_X5_141 : Cond.methodLink RX5 141 yX5_clearRow ∈ zTB := zTB_i5 19 (by decide +kernel)
theorem lkm_X5_104 : Cond.methodLink RX5 104 yX9_purseOf ∈ zTB := zTB_i5 23 (by decide +kernel)
theorem lkm_X5_72 : Cond.methodLink RX5 72 yX9_leftOf ∈ zTB := zTB_i5 24 (by decide +kernel)
theorem lkm_X5_145 : Cond.methodLink RX5 145 yX5_worthOf ∈ zTB := zTB_i5 25 (by decide +kernel)
theorem lkm_X5_54 : Cond.methodLink RX5 54 yX5_growthOfAll ∈ zTB := zTB_i5 29 (by decide +kernel)
theorem lkm_X5_58 : Cond.methodLink RX5 58 yX9_growthWith ∈ zTB := zTB_i5 33 (by decide +kernel)
theorem lkm_X5_113 : Cond.methodLink RX5 113 yX5_hoursOf ∈ zTB := zTB_i5 34 (by decide +kernel)
theorem lkm_X5_107 : (RX5, 107, yX11_cell, "WeatherWages") ∈ zNest := List.mem_of_getElem? (i := 14) (by decide +kernel)
theorem lkm_X5_116 : Cond.methodLink RX5 116 yX5_consider ∈ zTB := zTB_i5 39 (by decide +kernel)
theorem lkm_X5_97 : (RX5, 97, yX11_copyInts, "WeatherWages") ∈ zNest := List.mem_of_getElem? (i := 15) (by decide +kernel)
theorem lkm_X5_93 : Cond.methodLink RX5 93 yX5_nextRow ∈ zTB := zTB_i5 44 (by decide +kernel)
theorem lkm_X11_207 : Cond.methodLink RX11 207 yX7_layRow ∈ zTB := zTB_i5 48 (by decide +kernel)
theorem lkm_X7_19 : (RX7, 19, yX11_cell, "WeatherWages") ∈ zNest := List.mem_of_getElem? (i := 16) (by decide +kernel)
theorem lkm_X7_23 : Cond.methodLink RX7 23 yX7_lay ∈ zTB := zTB_i5 53 (by decide +kernel)
theorem lkm_X11_211 : Cond.methodLink RX11 211 yX5_hoursOf ∈ zTB := zTB_i5 57 (by decide +kernel)
theorem lkm_X11_214 : Cond.methodLink RX11 214 yX5_leakOfBest ∈ zTB := zTB_i5 62 (by decide +kernel)
theorem lkm_X5_50 : Cond.methodLink RX5 50 yX5_growthOfOthers ∈ zTB := zTB_i5 66 (by decide +kernel)
theorem lkm_X11_217 : Cond.methodLink RX11 217 yX5_findGood ∈ zTB := zTB_i5 74 (by decide +kernel)
theorem lkm_X11_220 : Cond.methodLink RX11 220 yX5_findNeeds ∈ zTB := zTB_i5 82 (by decide +kernel)
theorem lkm_X11_223 : Cond.methodLink RX11 223 yX3_hasTwo ∈ zTB := zTB_i5 90 (by decide +kernel)
theorem lkm_X11_226 : Cond.methodLink RX11 226 yX5_findPool ∈ zTB := zTB_i5 94 (by decide +kernel)
theorem lkm_X5_75 : Cond.methodLink RX5 75 Lib.Math.min.name ∈ zTB := zTB_i5 98 (by decide +kernel)
theorem lkm_X5_81 : Cond.methodLink RX5 81 yX5_inBoth ∈ zTB := zTB_i5 99 (by decide +kernel)
theorem lkm_X5_89 : Cond.methodLink RX5 89 yX5_findBeside ∈ zTB := zTB_i5 103 (by decide +kernel)
theorem lkm_X5_110 : Cond.methodLink RX5 110 yX5_growthOfTwo ∈ zTB := zTB_i5 107 (by decide +kernel)
theorem lkm_X11_229 : Cond.methodLink RX11 229 yX5_bestInTurn ∈ zTB := zTB_i5 115 (by decide +kernel)
theorem lkm_X11_232 : Cond.methodLink RX11 232 yX5_roundsToRest ∈ zTB := zTB_i5 123 (by decide +kernel)
theorem lkm_X5_120 : Cond.methodLink RX5 120 yX5_isAsAhead ∈ zTB := zTB_i5 127 (by decide +kernel)
theorem lkm_X11_235 : Cond.methodLink RX11 235 yX7_lay ∈ zTB := zTB_i5 131 (by decide +kernel)
theorem lkm_X11_238 : Cond.methodLink RX11 238 yX5_cropLeftAlone ∈ zTB := zTB_i5 136 (by decide +kernel)
theorem lkm_X5_124 : Cond.methodLink RX5 124 yX9_become ∈ zTB := zTB_i5 140 (by decide +kernel)
theorem lkm_X9_50 : (RX9, 50, yX11_copyInts, "WeatherWages") ∈ zNest := List.mem_of_getElem? (i := 17) (by decide +kernel)
theorem lkm_X5_128 : Cond.methodLink RX5 128 yX9_goWeek ∈ zTB := zTB_i5 145 (by decide +kernel)
theorem lkm_X5_132 : Cond.methodLink RX5 132 yX9_cropOf ∈ zTB := zTB_i5 146 (by decide +kernel)
theorem lkm_X11_241 : Cond.methodLink RX11 241 yX5_cropAtBest ∈ zTB := zTB_i5 151 (by decide +kernel)
theorem lkm_X5_138 : Cond.methodLink RX5 138 yX9_spendHours ∈ zTB := zTB_i5 155 (by decide +kernel)
theorem lkm_X11_244 : Cond.methodLink RX11 244 yX11_richest ∈ zTB := zTB_i5 168 (by decide +kernel)
theorem lkm_X11_252 : Cond.methodLink RX11 252 yX3_bestRound ∈ zTB := zTB_i5 177 (by decide +kernel)
theorem lkm_X3_101 : Cond.methodLink RX3 101 yX3_roundGiven ∈ zTB := zTB_i5 181 (by decide +kernel)
theorem lkm_X3_112 : Cond.methodLink RX3 112 yX3_aroundOf ∈ zTB := zTB_i5 185 (by decide +kernel)
theorem lkm_X3_105 : Cond.methodLink RX3 105 yX3_isGreater ∈ zTB := zTB_i5 190 (by decide +kernel)
theorem lkm_X3_109 : Cond.methodLink RX3 109 yX3_roundGot ∈ zTB := zTB_i5 194 (by decide +kernel)
theorem lkm_X11_255 : Cond.methodLink RX11 255 yX3_roundGot ∈ zTB := zTB_i5 198 (by decide +kernel)
theorem lkm_X11_258 : Cond.methodLink RX11 258 yX3_roundGiven ∈ zTB := zTB_i5 199 (by decide +kernel)
theorem lkm_X11_261 : Cond.methodLink RX11 261 yX11_commonDivisor ∈ zTB := zTB_i5 200 (by decide +kernel)
theorem lkm_X11_342 : Cond.methodLink RX11 342 Lib.Math.max.name ∈ zTB := zTB_i5 203 (by decide +kernel)
theorem lkm_X11_264 : Cond.methodLink RX11 264 yX3_roundKinds ∈ zTB := zTB_i5 204 (by decide +kernel)
theorem lkm_X11_267 : Cond.methodLink RX11 267 yX7_numberAt ∈ zTB := zTB_i5 212 (by decide +kernel)
theorem lkm_X11_270 : Cond.methodLink RX11 270 yX3_hasReader ∈ zTB := zTB_i5 220 (by decide +kernel)
theorem lkm_X3_90 : Cond.methodLink RX3 90 yX3_readers ∈ zTB := zTB_i5 224 (by decide +kernel)
theorem lkm_X11_273 : Cond.methodLink RX11 273 yX8_tell ∈ zTB := zTB_i5 228 (by decide +kernel)
theorem lkm_X8_47 : (RX8, 47, yX11_put, "WeatherWages") ∈ zNest := List.mem_of_getElem? (i := 18) (by decide +kernel)
theorem lkm_X11_277 : Cond.methodLink RX11 277 yX8_takeBack ∈ zTB := zTB_i6 1 (by decide +kernel)
theorem lkm_X8_54 : (RX8, 54, yX11_cell, "WeatherWages") ∈ zNest := List.mem_of_getElem? (i := 19) (by decide +kernel)
theorem lkm_X11_280 : Cond.methodLink RX11 280 yX8_passTime ∈ zTB := zTB_i6 10 (by decide +kernel)
theorem lkm_X11_283 : Cond.methodLink RX11 283 yX8_countOrders ∈ zTB := zTB_i6 19 (by decide +kernel)
theorem lkm_X8_62 : Cond.methodLink RX8 62 yX8_giveBooks ∈ zTB := zTB_i6 23 (by decide +kernel)
theorem lkm_X8_66 : Cond.methodLink RX8 66 yX3_readers ∈ zTB := zTB_i6 27 (by decide +kernel)
theorem lkm_X8_72 : Cond.methodLink RX8 72 yX8_tallyOrder ∈ zTB := zTB_i6 28 (by decide +kernel)
theorem lkm_X8_76 : Cond.methodLink RX8 76 yX8_isKnown ∈ zTB := zTB_i6 32 (by decide +kernel)
theorem lkm_X8_80 : Cond.methodLink RX8 80 yX8_agrees ∈ zTB := zTB_i6 36 (by decide +kernel)
theorem lkm_X8_84 : Cond.methodLink RX8 84 yX8_tellsOf ∈ zTB := zTB_i6 40 (by decide +kernel)
theorem lkm_X11_286 : Cond.methodLink RX11 286 yX8_sureBook ∈ zTB := zTB_i6 48 (by decide +kernel)
theorem lkm_X8_91 : Cond.methodLink RX8 91 yX8_countOrders ∈ zTB := zTB_i6 52 (by decide +kernel)
theorem lkm_X11_289 : Cond.methodLink RX11 289 yX8_manToAsk ∈ zTB := zTB_i6 57 (by decide +kernel)
theorem lkm_X8_94 : Cond.methodLink RX8 94 yX8_mostLeft ∈ zTB := zTB_i6 61 (by decide +kernel)
theorem lkm_X8_97 : Cond.methodLink RX8 97 Lib.Math.max.name ∈ zTB := zTB_i6 65 (by decide +kernel)
theorem lkm_X11_292 : Cond.methodLink RX11 292 yX8_mostLeft ∈ zTB := zTB_i6 66 (by decide +kernel)
theorem lkm_X11_295 : Cond.methodLink RX11 295 yX9_saveTo ∈ zTB := zTB_i6 71 (by decide +kernel)
theorem lkm_X11_299 : Cond.methodLink RX11 299 yX9_loadFrom ∈ zTB := zTB_i6 76 (by decide +kernel)
theorem lkm_X11_308 : Cond.methodLink RX11 308 yX9_seedNow ∈ zTB := zTB_i6 81 (by decide +kernel)
theorem lkm_X11_314 : Cond.methodLink RX11 314 yX0_undoable ∈ zTB := zTB_i6 82 (by decide +kernel)
theorem lkm_X11_317 : Cond.methodLink RX11 317 yX0_redoable ∈ zTB := zTB_i6 86 (by decide +kernel)
theorem lkm_X12_179 : Cond.methodLink RX12 179 yX12_clearBank ∈ zTB := zTB_i6 96 (by decide +kernel)
theorem lkm_X12_182 : Cond.methodLink RX12 182 yX12_startAnew ∈ zTB := zTB_i6 100 (by decide +kernel)
theorem lkm_X12_398 : Cond.methodLink RX12 398 yX12_many ∈ zTB := zTB_i6 104 (by decide +kernel)
theorem lkm_X12_275 : Cond.methodLink RX12 275 yX12_goOn ∈ zTB := zTB_i7 122 (by decide +kernel)
theorem lkm_X12_239 : Cond.methodLink RX12 239 yX12_sign ∈ zTB := zTB_i7 126 (by decide +kernel)
theorem lkm_X12_246 : Cond.methodLink RX12 246 yX12_isLetter ∈ zTB := zTB_i7 130 (by decide +kernel)
theorem lkm_X12_254 : Cond.methodLink RX12 254 yX12_isKept ∈ zTB := zTB_i7 133 (by decide +kernel)
theorem lkm_X12_258 : Cond.methodLink RX12 258 yX12_isDigit ∈ zTB := zTB_i7 157 (by decide +kernel)
theorem lkm_X12_264 : Cond.methodLink RX12 264 yX12_isSign ∈ zTB := zTB_i7 160 (by decide +kernel)
theorem lkm_X12_271 : Cond.methodLink RX12 271 yX12_isGood ∈ zTB := zTB_i7 163 (by decide +kernel)
theorem lkm_X12_304 : Cond.methodLink RX12 304 yX12_readLine ∈ zTB := zTB_i7 167 (by decide +kernel)
theorem lkm_X12_307 : Cond.methodLink RX12 307 yX12_isFull ∈ zTB := zTB_i7 171 (by decide +kernel)
theorem lkm_X12_281 : Cond.methodLink RX12 281 yX12_isWord ∈ zTB := zTB_i7 175 (by decide +kernel)
theorem lkm_X12_278 : Cond.methodLink RX12 278 yX12_misplaced ∈ zTB := zTB_i7 179 (by decide +kernel)
theorem lkm_X12_267 : Cond.methodLink RX12 267 yX12_fails ∈ zTB := zTB_i7 183 (by decide +kernel)
theorem lkm_X12_310 : Cond.methodLink RX12 310 yX12_kindHere ∈ zTB := zTB_i7 187 (by decide +kernel)
theorem lkm_X12_338 : Cond.methodLink RX12 338 yX12_here ∈ zTB := zTB_i7 191 (by decide +kernel)
theorem lkm_X12_314 : Cond.methodLink RX12 314 yX12_fresh ∈ zTB := zTB_i7 195 (by decide +kernel)
theorem lkm_X12_318 : Cond.methodLink RX12 318 yX12_readMan ∈ zTB := zTB_i7 199 (by decide +kernel)
theorem lkm_X12_342 : Cond.methodLink RX12 342 yX12_manHere ∈ zTB := zTB_i7 203 (by decide +kernel)
theorem lkm_X12_345 : Cond.methodLink RX12 345 yX12_after ∈ zTB := zTB_i7 207 (by decide +kernel)
theorem lkm_X12_284 : Cond.methodLink RX12 284 yX12_must ∈ zTB := zTB_i7 211 (by decide +kernel)
theorem lkm_X12_288 : Cond.methodLink RX12 288 yX12_numeral ∈ zTB := zTB_i7 215 (by decide +kernel)
theorem lkm_X12_321 : Cond.methodLink RX12 321 yX12_readSum ∈ zTB := zTB_i7 219 (by decide +kernel)
theorem lkm_X12_349 : Cond.methodLink RX12 349 yX12_known ∈ zTB := zTB_i7 223 (by decide +kernel)
theorem lkm_X12_325 : Cond.methodLink RX12 325 yX12_readHedge ∈ zTB := zTB_i7 227 (by decide +kernel)
theorem lkm_X12_328 : Cond.methodLink RX12 328 yX12_readRate ∈ zTB := zTB_i7 231 (by decide +kernel)
theorem lkm_X12_331 : Cond.methodLink RX12 331 yX12_readRule ∈ zTB := zTB_i7 235 (by decide +kernel)
theorem lkm_X12_355 : Cond.methodLink RX12 355 yX12_e ∈ zTB := zTB_i7 239 (by decide +kernel)
theorem lkm_X12_364 : Cond.methodLink RX12 364 yX12_pushE ∈ zTB := zTB_i8 3 (by decide +kernel)
theorem lkm_X12_367 : Cond.methodLink RX12 367 yX12_unit ∈ zTB := zTB_i8 7 (by decide +kernel)
theorem lkm_X12_335 : Cond.methodLink RX12 335 yX12_isSignHere ∈ zTB := zTB_i8 11 (by decide +kernel)
theorem lkm_X12_373 : Cond.methodLink RX12 373 yX12_wordHere ∈ zTB := zTB_i8 15 (by decide +kernel)
theorem lkm_X12_376 : Cond.methodLink RX12 376 yX12_emit ∈ zTB := zTB_i8 19 (by decide +kernel)
theorem lkm_X12_370 : Cond.methodLink RX12 370 yX12_behindUnit ∈ zTB := zTB_i8 23 (by decide +kernel)
theorem lkm_X12_379 : Cond.methodLink RX12 379 yX12_rankHere ∈ zTB := zTB_i8 27 (by decide +kernel)
theorem lkm_X12_382 : Cond.methodLink RX12 382 yX12_isCompared ∈ zTB := zTB_i8 31 (by decide +kernel)
theorem lkm_X12_426 : Cond.methodLink RX12 426 yX12_isMan ∈ zTB := zTB_i8 43 (by decide +kernel)
theorem lkm_X12_401 : Cond.methodLink RX12 401 yX12_isIn ∈ zTB := zTB_i8 47 (by decide +kernel)
theorem lkm_X12_420 : Cond.methodLink RX12 420 yX12_growthOf ∈ zTB := zTB_i8 51 (by decide +kernel)
theorem lkm_X12_388 : Cond.methodLink RX12 388 yX12_overOf ∈ zTB := zTB_i8 55 (by decide +kernel)
theorem lkm_X12_417 : Cond.methodLink RX12 417 yX12_comes ∈ zTB := zTB_i8 59 (by decide +kernel)
theorem lkm_X12_391 : Cond.methodLink RX12 391 yX12_asked ∈ zTB := zTB_i8 63 (by decide +kernel)
theorem lkm_X12_394 : Cond.methodLink RX12 394 yX12_two ∈ zTB := zTB_i8 67 (by decide +kernel)
theorem lkm_X12_430 : Cond.methodLink RX12 430 yX12_sumOf ∈ zTB := zTB_i8 70 (by decide +kernel)
theorem lkm_X12_433 : Cond.methodLink RX12 433 yX12_payOf ∈ zTB := zTB_i8 74 (by decide +kernel)
theorem lkm_X12_436 : Cond.methodLink RX12 436 yX12_isKind ∈ zTB := zTB_i8 82 (by decide +kernel)
theorem lkm_X12_439 : Cond.methodLink RX12 439 yX12_inPurse ∈ zTB := zTB_i8 86 (by decide +kernel)
theorem lkm_X12_442 : Cond.methodLink RX12 442 yX12_leftOf ∈ zTB := zTB_i8 106 (by decide +kernel)
theorem lkm_X12_445 : Cond.methodLink RX12 445 yX12_keepAct ∈ zTB := zTB_i8 114 (by decide +kernel)
theorem lkm_X12_448 : Cond.methodLink RX12 448 yX12_lay ∈ zTB := zTB_i8 118 (by decide +kernel)
theorem lkm_X12_423 : Cond.methodLink RX12 423 yX12_leakTo ∈ zTB := zTB_i8 122 (by decide +kernel)
theorem lkm_X12_455 : Cond.methodLink RX12 455 yX12_gets ∈ zTB := zTB_i8 130 (by decide +kernel)
theorem lkm_X12_452 : Cond.methodLink RX12 452 yX12_lesser ∈ zTB := zTB_i8 134 (by decide +kernel)
theorem lkm_X12_469 : Cond.methodLink RX12 469 yX12_goWeek ∈ zTB := zTB_i8 145 (by decide +kernel)
theorem lkm_X12_459 : Cond.methodLink RX12 459 yX12_has ∈ zTB := zTB_i8 149 (by decide +kernel)
theorem lkm_X12_463 : Cond.methodLink RX12 463 yX12_loosen ∈ zTB := zTB_i8 152 (by decide +kernel)
theorem lkm_X12_466 : Cond.methodLink RX12 466 yX12_growths ∈ zTB := zTB_i8 156 (by decide +kernel)
theorem lkm_X12_472 : Cond.methodLink RX12 472 yX12_exchange ∈ zTB := zTB_i8 164 (by decide +kernel)
theorem lkm_X12_498 : Cond.methodLink RX12 498 yX12_layBest ∈ zTB := zTB_i8 180 (by decide +kernel)
theorem lkm_X12_475 : Cond.methodLink RX12 475 yX12_layMost ∈ zTB := zTB_i8 184 (by decide +kernel)
theorem lkm_X12_478 : Cond.methodLink RX12 478 yX12_noRow ∈ zTB := zTB_i8 188 (by decide +kernel)
theorem lkm_X12_484 : Cond.methodLink RX12 484 yX12_layRow ∈ zTB := zTB_i8 192 (by decide +kernel)
theorem lkm_X12_490 : Cond.methodLink RX12 490 yX12_nextRow ∈ zTB := zTB_i8 196 (by decide +kernel)
theorem lkm_X12_501 : Cond.methodLink RX12 501 yX12_show ∈ zTB := zTB_i8 200 (by decide +kernel)
theorem lkm_X12_494 : Cond.methodLink RX12 494 yX12_showRow ∈ zTB := zTB_i8 204 (by decide +kernel)
theorem lkm_X12_504 : Cond.methodLink RX12 504 yX12_layBestRow ∈ zTB := zTB_i8 216 (by decide +kernel)
theorem lkm_X12_516 : Cond.methodLink RX12 516 yX12_areTwo ∈ zTB := zTB_i8 228 (by decide +kernel)
theorem lkm_X12_519 : Cond.methodLink RX12 519 yX12_layPool ∈ zTB := zTB_i8 232 (by decide +kernel)
theorem lkm_X12_513 : Cond.methodLink RX12 513 yX12_layOther ∈ zTB := zTB_i8 236 (by decide +kernel)
theorem lkm_X12_522 : Cond.methodLink RX12 522 yX12_keepNow ∈ zTB := zTB_i9 4 (by decide +kernel)
theorem lkm_X12_525 : Cond.methodLink RX12 525 yX12_bringBack ∈ zTB := zTB_i9 8 (by decide +kernel)
theorem lkm_X12_528 : Cond.methodLink RX12 528 yX12_goRound ∈ zTB := zTB_i9 16 (by decide +kernel)
theorem lkm_X12_531 : Cond.methodLink RX12 531 yX12_spendsOf ∈ zTB := zTB_i9 20 (by decide +kernel)
theorem lkm_X12_534 : Cond.methodLink RX12 534 yX12_richest ∈ zTB := zTB_i9 44 (by decide +kernel)
theorem lkm_X12_546 : Cond.methodLink RX12 546 yX12_tryRound ∈ zTB := zTB_i9 53 (by decide +kernel)
theorem lkm_X12_549 : Cond.methodLink RX12 549 yX12_divisor ∈ zTB := zTB_i9 57 (by decide +kernel)
theorem lkm_X12_558 : Cond.methodLink RX12 558 yX12_isFirst ∈ zTB := zTB_i9 64 (by decide +kernel)
theorem lkm_X12_552 : Cond.methodLink RX12 552 yX12_firsts ∈ zTB := zTB_i9 68 (by decide +kernel)
theorem lkm_X12_561 : Cond.methodLink RX12 561 yX12_tell ∈ zTB := zTB_i9 72 (by decide +kernel)
theorem lkm_X12_578 : Cond.methodLink RX12 578 yX12_layOrders ∈ zTB := zTB_i9 93 (by decide +kernel)
theorem lkm_X12_572 : Cond.methodLink RX12 572 yX12_layOrder ∈ zTB := zTB_i9 97 (by decide +kernel)
theorem lkm_X12_575 : Cond.methodLink RX12 575 yX12_doesFit ∈ zTB := zTB_i9 101 (by decide +kernel)
theorem lkm_X12_566 : Cond.methodLink RX12 566 yX12_tells ∈ zTB := zTB_i9 105 (by decide +kernel)
theorem lkc_X6_66 : Cond.constantLong RX6 66 (27) ∈ zTB := zTB_i3 3 (by decide +kernel)
theorem lkc_X11_123 : Cond.constant RX11 123 (-1000000) ∈ zTB := zTB_i4 63 (by decide +kernel)
theorem lkc_X8_58 : Cond.constant RX8 58 (100000) ∈ zTB := zTB_i6 14 (by decide +kernel)
theorem lkc_X12_191 : Cond.constantLong RX12 191 (1802071652) ∈ zTB := zTB_i7 136 (by decide +kernel)
theorem lkc_X12_193 : Cond.constantLong RX12 193 (7168366) ∈ zTB := zTB_i7 137 (by decide +kernel)
theorem lkc_X12_195 : Cond.constantLong RX12 195 (1668444016) ∈ zTB := zTB_i7 138 (by decide +kernel)
theorem lkc_X12_197 : Cond.constantLong RX12 197 (465726042981) ∈ zTB := zTB_i7 139 (by decide +kernel)
theorem lkc_X12_199 : Cond.constantLong RX12 199 (483006772069) ∈ zTB := zTB_i7 140 (by decide +kernel)
theorem lkc_X12_201 : Cond.constantLong RX12 201 (7364985) ∈ zTB := zTB_i7 141 (by decide +kernel)
theorem lkc_X12_203 : Cond.constantLong RX12 203 (448377677669) ∈ zTB := zTB_i7 142 (by decide +kernel)
theorem lkc_X12_205 : Cond.constantLong RX12 205 (1918989413) ∈ zTB := zTB_i7 143 (by decide +kernel)
theorem lkc_X12_207 : Cond.constantLong RX12 207 (6713202) ∈ zTB := zTB_i7 144 (by decide +kernel)
theorem lkc_X12_209 : Cond.constantLong RX12 209 (1651470187) ∈ zTB := zTB_i7 145 (by decide +kernel)
theorem lkc_X12_211 : Cond.constantLong RX12 211 (1735552887) ∈ zTB := zTB_i7 146 (by decide +kernel)
theorem lkc_X12_213 : Cond.constantLong RX12 213 (448546566771) ∈ zTB := zTB_i7 147 (by decide +kernel)
theorem lkc_X12_215 : Cond.constantLong RX12 215 (1685217655) ∈ zTB := zTB_i7 148 (by decide +kernel)
theorem lkc_X12_217 : Cond.constantLong RX12 217 (439855772532) ∈ zTB := zTB_i7 149 (by decide +kernel)
theorem lkc_X12_219 : Cond.constantLong RX12 219 (126879297138276) ∈ zTB := zTB_i7 150 (by decide +kernel)
theorem lkc_X12_221 : Cond.constantLong RX12 221 (499967947364) ∈ zTB := zTB_i7 151 (by decide +kernel)
theorem lkc_X12_223 : Cond.constantLong RX12 223 (2003133803) ∈ zTB := zTB_i7 152 (by decide +kernel)
theorem lkc_X12_225 : Cond.constantLong RX12 225 (1886154612) ∈ zTB := zTB_i7 153 (by decide +kernel)
theorem lkc_X12_227 : Cond.constantLong RX12 227 (28530) ∈ zTB := zTB_i7 154 (by decide +kernel)
theorem lkc_X12_229 : Cond.constantLong RX12 229 (6385252) ∈ zTB := zTB_i7 155 (by decide +kernel)
theorem lkc_X12_231 : Cond.constantLong RX12 231 (7237492) ∈ zTB := zTB_i7 156 (by decide +kernel)
theorem lkc_X12_429 : Cond.constant RX12 429 (-1000000) ∈ zTB := zTB_i8 50 (by decide +kernel)
theorem lkc_X12_565 : Cond.constant RX12 565 (100000) ∈ zTB := zTB_i9 88 (by decide +kernel)
theorem tw_mmax1 : Cond.static Lib.Math.max.name ∈ zTB := zTB_i4 105 (by decide +kernel)
theorem tw_mmax3 : Cond.code Lib.Math.max.name Lib.Math.max.code 2 (some .int) ∈ zTB := zTB_i4 106 (by decide +kernel)
theorem tw_mmin1 : Cond.static Lib.Math.min.name ∈ zTB := zTB_i4 10 (by decide +kernel)
theorem tw_mmin3 : Cond.code Lib.Math.min.name Lib.Math.min.code 2 (some .int) ∈ zTB := zTB_i4 11 (by decide +kernel)
theorem tw_m2 : Cond.initialized "java/lang/Math" ∈ zTB := zTB_i1 18 (by decide +kernel)
theorem tw_c1 : Cond.native arraycopyName ∈ zTB := zTB_i4 14 (by decide +kernel)
theorem tw_c2 : Cond.static arraycopyName ∈ zTB := zTB_i4 13 (by decide +kernel)
theorem tw_c3 : Cond.initialized "java/lang/System" ∈ zTB := zTB_i1 19 (by decide +kernel)
