/-- the memory of a new object of the class -/
def zX0 : Mem := (fun k => if k = 16 then (fun i => if i = 6 then -1 else 0) else if k = 4 then (fun i => if i = 4 then 6 else 0) else if k = 23 then (fun i => if i = 4 then 6 else 0) else fun _ => 0, fun _ _ => 0)
set_option maxRecDepth 100000 in
set_option maxHeartbeats 2000000 in
theorem weq_X (l : Launch) (D : va_G) (aC : Nat → ClassId) (ad : Nat → Nat) : [((ad 0), .inr (11, [.ref (ad 1), .ref (ad 3), .ref (ad 23), .ref (ad 35), .ref (ad 39), .ref (ad 41), .ref (ad 51), .ref (ad 53), .ref (ad 63), .ref (ad 64)])), ((ad 1), .inr (10, [.ref (ad 2), .int 0])), ((ad 2), .inl (aC 1, 1600, .inl (fun _ => 0))), ((ad 3), .inr (4, [.ref (ad 4), .ref (ad 16), .ref (ad 17), .ref (ad 18), .ref (ad 19), .ref (ad 20), .ref (ad 21), .ref (ad 22), .int 0, .int 0, .int 0])), ((ad 4), .inr (3, [.int 0, .int 0, .int 0, .int 0, .int 6, .int 0, .ref (ad 5), .ref (ad 6), .ref (ad 7), .ref (ad 8), .ref (ad 9), .ref (ad 10), .ref (ad 11), .ref (ad 12), .ref (ad 13)])), ((ad 5), .inl (aC 0, 5, .inl (fun _ => 0))), ((ad 6), .inl (aC 0, 5, .inl (fun _ => 0))), ((ad 7), .inl (aC 0, 5, .inl (fun _ => 0))), ((ad 8), .inl (aC 0, 15, .inl (fun _ => 0))), ((ad 9), .inl (aC 0, 15, .inl (fun _ => 0))), ((ad 10), .inl (aC 0, 9, .inl (fun _ => 0))), ((ad 11), .inl (aC 0, 9, .inl (fun _ => 0))), ((ad 12), .inl (aC 0, 5, .inl (fun _ => 0))), ((ad 13), .inr (1, [.ref (ad 14), .ref (ad 15), .int 0, .int 0])), ((ad 14), .inl (aC 0, 300, .inl (fun _ => 0))), ((ad 15), .inl (aC 0, 32, .inl (fun _ => 0))), ((ad 16), .inr (6, [.ref (ad 1), .int 0, .long 0, .int 0, .int 0, .int 0, .int (-1), .int 0, .int 0])), ((ad 17), .inr (2, [.ref (ad 16), .ref (ad 13)])), ((ad 18), .inl (aC 3, 3, .inr (.inl (fun _ => 0)))), ((ad 19), .inl (aC 3, 5, .inr (.inl (fun _ => 0)))), ((ad 20), .inl (aC 2, 15, .inl (fun _ => 0))), ((ad 21), .inl (aC 2, 15, .inl (fun _ => 0))), ((ad 22), .inl (aC 2, 5, .inl (fun _ => 0))), ((ad 23), .inr (3, [.int 0, .int 0, .int 0, .int 0, .int 6, .int 0, .ref (ad 24), .ref (ad 25), .ref (ad 26), .ref (ad 27), .ref (ad 28), .ref (ad 29), .ref (ad 30), .ref (ad 31), .ref (ad 32)])), ((ad 24), .inl (aC 0, 5, .inl (fun _ => 0))), ((ad 25), .inl (aC 0, 5, .inl (fun _ => 0))), ((ad 26), .inl (aC 0, 5, .inl (fun _ => 0))), ((ad 27), .inl (aC 0, 15, .inl (fun _ => 0))), ((ad 28), .inl (aC 0, 15, .inl (fun _ => 0))), ((ad 29), .inl (aC 0, 9, .inl (fun _ => 0))), ((ad 30), .inl (aC 0, 9, .inl (fun _ => 0))), ((ad 31), .inl (aC 0, 5, .inl (fun _ => 0))), ((ad 32), .inr (1, [.ref (ad 33), .ref (ad 34), .int 0, .int 0])), ((ad 33), .inl (aC 0, 300, .inl (fun _ => 0))), ((ad 34), .inl (aC 0, 32, .inl (fun _ => 0))), ((ad 35), .inr (9, [.ref (ad 23), .ref (ad 36), .ref (ad 37), .ref (ad 38)])), ((ad 36), .inl (aC 0, 42, .inl (fun _ => 0))), ((ad 37), .inl (aC 0, 6, .inl (fun _ => 0))), ((ad 38), .inl (aC 0, 15, .inl (fun _ => 0))), ((ad 39), .inr (0, [.ref (ad 35), .ref (ad 40), .int 0, .int 0, .int 0])), ((ad 40), .inl (aC 0, 1722, .inl (fun _ => 0))), ((ad 41), .inr (5, [.ref (ad 23), .ref (ad 35), .ref (ad 42), .ref (ad 46), .ref (ad 47), .ref (ad 48), .ref (ad 49), .ref (ad 50), .int 0, .int 0, .int 0])), ((ad 42), .inr (9, [.ref (ad 23), .ref (ad 43), .ref (ad 44), .ref (ad 45)])), ((ad 43), .inl (aC 0, 42, .inl (fun _ => 0))), ((ad 44), .inl (aC 0, 6, .inl (fun _ => 0))), ((ad 45), .inl (aC 0, 15, .inl (fun _ => 0))), ((ad 46), .inl (aC 0, 15, .inl (fun _ => 0))), ((ad 47), .inl (aC 0, 15, .inl (fun _ => 0))), ((ad 48), .inl (aC 0, 15, .inl (fun _ => 0))), ((ad 49), .inl (aC 0, 3, .inl (fun _ => 0))), ((ad 50), .inl (aC 0, 3, .inl (fun _ => 0))), ((ad 51), .inr (7, [.ref (ad 52), .int 0])), ((ad 52), .inl (aC 0, 6, .inl (fun _ => 0))), ((ad 53), .inr (8, [.ref (ad 23), .ref (ad 54), .ref (ad 55), .ref (ad 56), .ref (ad 57), .ref (ad 58), .ref (ad 59), .int 0, .int 0, .ref (ad 60), .ref (ad 61), .ref (ad 62), .int 0])), ((ad 54), .inl (aC 0, 30, .inl (fun _ => 0))), ((ad 55), .inl (aC 0, 30, .inl (fun _ => 0))), ((ad 56), .inl (aC 0, 30, .inl (fun _ => 0))), ((ad 57), .inl (aC 0, 30, .inl (fun _ => 0))), ((ad 58), .inl (aC 0, 30, .inl (fun _ => 0))), ((ad 59), .inl (aC 0, 30, .inl (fun _ => 0))), ((ad 60), .inl (aC 0, 5, .inl (fun _ => 0))), ((ad 61), .inl (aC 0, 5, .inl (fun _ => 0))), ((ad 62), .inl (aC 0, 25, .inl (fun _ => 0))), ((ad 63), .inl (aC 0, 126, .inl (fun _ => 0))), ((ad 64), .inl (aC 2, 3, .inl (fun _ => 0)))] = zWs (l, D, aC, ad) zTX zX0 := by
  refine zWs_F _ _ _ ?_
  unfold zTX
  refine zw_c (by rfl) (zw_o ?_) ?_
  · refine zf_c (by rfl) ?_
    refine zf_c (by rfl) ?_
    refine zf_c (by rfl) ?_
    refine zf_c (by rfl) ?_
    refine zf_c (by rfl) ?_
    refine zf_c (by rfl) ?_
    refine zf_c (by rfl) ?_
    refine zf_c (by rfl) ?_
    refine zf_c (by rfl) ?_
    refine zf_c (by rfl) ?_
    rfl
  refine zw_c (by rfl) (zw_o ?_) ?_
  · refine zf_c (by rfl) ?_
    refine zf_c (by rfl) ?_
    rfl
  refine zw_c (by rfl) (zw_a rfl rfl rfl) ?_
  refine zw_c (by rfl) (zw_o ?_) ?_
  · refine zf_c (by rfl) ?_
    refine zf_c (by rfl) ?_
    refine zf_c (by rfl) ?_
    refine zf_c (by rfl) ?_
    refine zf_c (by rfl) ?_
    refine zf_c (by rfl) ?_
    refine zf_c (by rfl) ?_
    refine zf_c (by rfl) ?_
    refine zf_c (by rfl) ?_
    refine zf_c (by rfl) ?_
    refine zf_c (by rfl) ?_
    rfl
  refine zw_c (by rfl) (zw_o ?_) ?_
  · refine zf_c (by rfl) ?_
    refine zf_c (by rfl) ?_
    refine zf_c (by rfl) ?_
    refine zf_c (by rfl) ?_
    refine zf_c (by rfl) ?_
    refine zf_c (by rfl) ?_
    refine zf_c (by rfl) ?_
    refine zf_c (by rfl) ?_
    refine zf_c (by rfl) ?_
    refine zf_c (by rfl) ?_
    refine zf_c (by rfl) ?_
    refine zf_c (by rfl) ?_
    refine zf_c (by rfl) ?_
    refine zf_c (by rfl) ?_
    refine zf_c (by rfl) ?_
    rfl
  refine zw_c (by rfl) (zw_a rfl rfl rfl) ?_
  refine zw_c (by rfl) (zw_a rfl rfl rfl) ?_
  refine zw_c (by rfl) (zw_a rfl rfl rfl) ?_
  refine zw_c (by rfl) (zw_a rfl rfl rfl) ?_
  refine zw_c (by rfl) (zw_a rfl rfl rfl) ?_
  refine zw_c (by rfl) (zw_a rfl rfl rfl) ?_
  refine zw_c (by rfl) (zw_a rfl rfl rfl) ?_
  refine zw_c (by rfl) (zw_a rfl rfl rfl) ?_
  refine zw_c (by rfl) (zw_o ?_) ?_
  · refine zf_c (by rfl) ?_
    refine zf_c (by rfl) ?_
    refine zf_c (by rfl) ?_
    refine zf_c (by rfl) ?_
    rfl
  refine zw_c (by rfl) (zw_a rfl rfl rfl) ?_
  refine zw_c (by rfl) (zw_a rfl rfl rfl) ?_
  refine zw_c (by rfl) (zw_o ?_) ?_
  · refine zf_c (by rfl) ?_
    refine zf_c (by rfl) ?_
    refine zf_c (by rfl) ?_
    refine zf_c (by rfl) ?_
    refine zf_c (by rfl) ?_
    refine zf_c (by rfl) ?_
    refine zf_c (by rfl) ?_
    refine zf_c (by rfl) ?_
    refine zf_c (by rfl) ?_
    rfl
  refine zw_c (by rfl) (zw_o ?_) ?_
  · refine zf_c (by rfl) ?_
    refine zf_c (by rfl) ?_
    rfl
  refine zw_c (by rfl) (zw_l rfl rfl) ?_
  refine zw_c (by rfl) (zw_l rfl rfl) ?_
  refine zw_c (by rfl) (zw_a rfl rfl rfl) ?_
  refine zw_c (by rfl) (zw_a rfl rfl rfl) ?_
  refine zw_c (by rfl) (zw_a rfl rfl rfl) ?_
  refine zw_c (by rfl) (zw_o ?_) ?_
  · refine zf_c (by rfl) ?_
    refine zf_c (by rfl) ?_
    refine zf_c (by rfl) ?_
    refine zf_c (by rfl) ?_
    refine zf_c (by rfl) ?_
    refine zf_c (by rfl) ?_
    refine zf_c (by rfl) ?_
    refine zf_c (by rfl) ?_
    refine zf_c (by rfl) ?_
    refine zf_c (by rfl) ?_
    refine zf_c (by rfl) ?_
    refine zf_c (by rfl) ?_
    refine zf_c (by rfl) ?_
    refine zf_c (by rfl) ?_
    refine zf_c (by rfl) ?_
    rfl
  refine zw_c (by rfl) (zw_a rfl rfl rfl) ?_
  refine zw_c (by rfl) (zw_a rfl rfl rfl) ?_
  refine zw_c (by rfl) (zw_a rfl rfl rfl) ?_
  refine zw_c (by rfl) (zw_a rfl rfl rfl) ?_
  refine zw_c (by rfl) (zw_a rfl rfl rfl) ?_
  refine zw_c (by rfl) (zw_a rfl rfl rfl) ?_
  refine zw_c (by rfl) (zw_a rfl rfl rfl) ?_
  refine zw_c (by rfl) (zw_a rfl rfl rfl) ?_
  refine zw_c (by rfl) (zw_o ?_) ?_
  · refine zf_c (by rfl) ?_
    refine zf_c (by rfl) ?_
    refine zf_c (by rfl) ?_
    refine zf_c (by rfl) ?_
    rfl
  refine zw_c (by rfl) (zw_a rfl rfl rfl) ?_
  refine zw_c (by rfl) (zw_a rfl rfl rfl) ?_
  refine zw_c (by rfl) (zw_o ?_) ?_
  · refine zf_c (by rfl) ?_
    refine zf_c (by rfl) ?_
    refine zf_c (by rfl) ?_
    refine zf_c (by rfl) ?_
    rfl
  refine zw_c (by rfl) (zw_a rfl rfl rfl) ?_
  refine zw_c (by rfl) (zw_a rfl rfl rfl) ?_
  refine zw_c (by rfl) (zw_a rfl rfl rfl) ?_
  refine zw_c (by rfl) (zw_o ?_) ?_
  · refine zf_c (by rfl) ?_
    refine zf_c (by rfl) ?_
    refine zf_c (by rfl) ?_
    refine zf_c (by rfl) ?_
    refine zf_c (by rfl) ?_
    rfl
  refine zw_c (by rfl) (zw_a rfl rfl rfl) ?_
  refine zw_c (by rfl) (zw_o ?_) ?_
  · refine zf_c (by rfl) ?_
    refine zf_c (by rfl) ?_
    refine zf_c (by rfl) ?_
    refine zf_c (by rfl) ?_
    refine zf_c (by rfl) ?_
    refine zf_c (by rfl) ?_
    refine zf_c (by rfl) ?_
    refine zf_c (by rfl) ?_
    refine zf_c (by rfl) ?_
    refine zf_c (by rfl) ?_
    refine zf_c (by rfl) ?_
    rfl
  refine zw_c (by rfl) (zw_o ?_) ?_
  · refine zf_c (by rfl) ?_
    refine zf_c (by rfl) ?_
    refine zf_c (by rfl) ?_
    refine zf_c (by rfl) ?_
    rfl
  refine zw_c (by rfl) (zw_a rfl rfl rfl) ?_
  refine zw_c (by rfl) (zw_a rfl rfl rfl) ?_
  refine zw_c (by rfl) (zw_a rfl rfl rfl) ?_
  refine zw_c (by rfl) (zw_a rfl rfl rfl) ?_
  refine zw_c (by rfl) (zw_a rfl rfl rfl) ?_
  refine zw_c (by rfl) (zw_a rfl rfl rfl) ?_
  refine zw_c (by rfl) (zw_a rfl rfl rfl) ?_
  refine zw_c (by rfl) (zw_a rfl rfl rfl) ?_
  refine zw_c (by rfl) (zw_o ?_) ?_
  · refine zf_c (by rfl) ?_
    refine zf_c (by rfl) ?_
    rfl
  refine zw_c (by rfl) (zw_a rfl rfl rfl) ?_
  refine zw_c (by rfl) (zw_o ?_) ?_
  · refine zf_c (by rfl) ?_
    refine zf_c (by rfl) ?_
    refine zf_c (by rfl) ?_
    refine zf_c (by rfl) ?_
    refine zf_c (by rfl) ?_
    refine zf_c (by rfl) ?_
    refine zf_c (by rfl) ?_
    refine zf_c (by rfl) ?_
    refine zf_c (by rfl) ?_
    refine zf_c (by rfl) ?_
    refine zf_c (by rfl) ?_
    refine zf_c (by rfl) ?_
    refine zf_c (by rfl) ?_
    rfl
  refine zw_c (by rfl) (zw_a rfl rfl rfl) ?_
  refine zw_c (by rfl) (zw_a rfl rfl rfl) ?_
  refine zw_c (by rfl) (zw_a rfl rfl rfl) ?_
  refine zw_c (by rfl) (zw_a rfl rfl rfl) ?_
  refine zw_c (by rfl) (zw_a rfl rfl rfl) ?_
  refine zw_c (by rfl) (zw_a rfl rfl rfl) ?_
  refine zw_c (by rfl) (zw_a rfl rfl rfl) ?_
  refine zw_c (by rfl) (zw_a rfl rfl rfl) ?_
  refine zw_c (by rfl) (zw_a rfl rfl rfl) ?_
  refine zw_c (by rfl) (zw_a rfl rfl rfl) ?_
  refine zw_c (by rfl) (zw_a rfl rfl rfl) ?_
  rfl
def zX0ad (h0 : Nat) (qs : List Nat) (ad0 : Nat → Nat) (k : Nat) : Nat := if k < 65 then (h0 :: qs).getD k 0 else ad0 k
set_option maxRecDepth 100000 in
set_option maxHeartbeats 4000000 in
theorem st_X (l : Launch) (D : va_G) (aC : Nat → ClassId) (h0 : Nat) (ad0 : Nat → Nat) {wl : va_W} (h : ∃ q1 q2 q3 q4 q5 q6 q7 q8 q9 q10 q11 q12 q13 q14 q15 q16 q17 q18 q19 q20 q21 q22 q23 q24 q25 q26 q27 q28 q29 q30 q31 q32 q33 q34 q35 q36 q37 q38 q39 q40 q41 q42 q43 q44 q45 q46 q47 q48 q49 q50 q51 q52 q53 q54 q55 q56 q57 q58 q59 q60 q61 q62 q63 q64 : Nat, wl = [(h0, .inr (11, [.ref q1, .ref q3, .ref q23, .ref q35, .ref q39, .ref q41, .ref q51, .ref q53, .ref q63, .ref q64])), (q1, .inr (10, [.ref q2, .int 0])), (q2, .inl (aC 1, 1600, .inl (fun _ => 0))), (q3, .inr (4, [.ref q4, .ref q16, .ref q17, .ref q18, .ref q19, .ref q20, .ref q21, .ref q22, .int 0, .int 0, .int 0])), (q4, .inr (3, [.int 0, .int 0, .int 0, .int 0, .int 6, .int 0, .ref q5, .ref q6, .ref q7, .ref q8, .ref q9, .ref q10, .ref q11, .ref q12, .ref q13])), (q5, .inl (aC 0, 5, .inl (fun _ => 0))), (q6, .inl (aC 0, 5, .inl (fun _ => 0))), (q7, .inl (aC 0, 5, .inl (fun _ => 0))), (q8, .inl (aC 0, 15, .inl (fun _ => 0))), (q9, .inl (aC 0, 15, .inl (fun _ => 0))), (q10, .inl (aC 0, 9, .inl (fun _ => 0))), (q11, .inl (aC 0, 9, .inl (fun _ => 0))), (q12, .inl (aC 0, 5, .inl (fun _ => 0))), (q13, .inr (1, [.ref q14, .ref q15, .int 0, .int 0])), (q14, .inl (aC 0, 300, .inl (fun _ => 0))), (q15, .inl (aC 0, 32, .inl (fun _ => 0))), (q16, .inr (6, [.ref q1, .int 0, .long 0, .int 0, .int 0, .int 0, .int (-1), .int 0, .int 0])), (q17, .inr (2, [.ref q16, .ref q13])), (q18, .inl (aC 3, 3, .inr (.inl (fun _ => 0)))), (q19, .inl (aC 3, 5, .inr (.inl (fun _ => 0)))), (q20, .inl (aC 2, 15, .inl (fun _ => 0))), (q21, .inl (aC 2, 15, .inl (fun _ => 0))), (q22, .inl (aC 2, 5, .inl (fun _ => 0))), (q23, .inr (3, [.int 0, .int 0, .int 0, .int 0, .int 6, .int 0, .ref q24, .ref q25, .ref q26, .ref q27, .ref q28, .ref q29, .ref q30, .ref q31, .ref q32])), (q24, .inl (aC 0, 5, .inl (fun _ => 0))), (q25, .inl (aC 0, 5, .inl (fun _ => 0))), (q26, .inl (aC 0, 5, .inl (fun _ => 0))), (q27, .inl (aC 0, 15, .inl (fun _ => 0))), (q28, .inl (aC 0, 15, .inl (fun _ => 0))), (q29, .inl (aC 0, 9, .inl (fun _ => 0))), (q30, .inl (aC 0, 9, .inl (fun _ => 0))), (q31, .inl (aC 0, 5, .inl (fun _ => 0))), (q32, .inr (1, [.ref q33, .ref q34, .int 0, .int 0])), (q33, .inl (aC 0, 300, .inl (fun _ => 0))), (q34, .inl (aC 0, 32, .inl (fun _ => 0))), (q35, .inr (9, [.ref q23, .ref q36, .ref q37, .ref q38])), (q36, .inl (aC 0, 42, .inl (fun _ => 0))), (q37, .inl (aC 0, 6, .inl (fun _ => 0))), (q38, .inl (aC 0, 15, .inl (fun _ => 0))), (q39, .inr (0, [.ref q35, .ref q40, .int 0, .int 0, .int 0])), (q40, .inl (aC 0, 1722, .inl (fun _ => 0))), (q41, .inr (5, [.ref q23, .ref q35, .ref q42, .ref q46, .ref q47, .ref q48, .ref q49, .ref q50, .int 0, .int 0, .int 0])), (q42, .inr (9, [.ref q23, .ref q43, .ref q44, .ref q45])), (q43, .inl (aC 0, 42, .inl (fun _ => 0))), (q44, .inl (aC 0, 6, .inl (fun _ => 0))), (q45, .inl (aC 0, 15, .inl (fun _ => 0))), (q46, .inl (aC 0, 15, .inl (fun _ => 0))), (q47, .inl (aC 0, 15, .inl (fun _ => 0))), (q48, .inl (aC 0, 15, .inl (fun _ => 0))), (q49, .inl (aC 0, 3, .inl (fun _ => 0))), (q50, .inl (aC 0, 3, .inl (fun _ => 0))), (q51, .inr (7, [.ref q52, .int 0])), (q52, .inl (aC 0, 6, .inl (fun _ => 0))), (q53, .inr (8, [.ref q23, .ref q54, .ref q55, .ref q56, .ref q57, .ref q58, .ref q59, .int 0, .int 0, .ref q60, .ref q61, .ref q62, .int 0])), (q54, .inl (aC 0, 30, .inl (fun _ => 0))), (q55, .inl (aC 0, 30, .inl (fun _ => 0))), (q56, .inl (aC 0, 30, .inl (fun _ => 0))), (q57, .inl (aC 0, 30, .inl (fun _ => 0))), (q58, .inl (aC 0, 30, .inl (fun _ => 0))), (q59, .inl (aC 0, 30, .inl (fun _ => 0))), (q60, .inl (aC 0, 5, .inl (fun _ => 0))), (q61, .inl (aC 0, 5, .inl (fun _ => 0))), (q62, .inl (aC 0, 25, .inl (fun _ => 0))), (q63, .inl (aC 0, 126, .inl (fun _ => 0))), (q64, .inl (aC 2, 3, .inl (fun _ => 0)))]) : ∃ ad : Nat → Nat, ad 0 = h0 ∧ (∀ k, 1000 ≤ k → ad k = ad0 k) ∧ wl = zWs (l, D, aC, ad) zTX zX0 := by
  obtain ⟨q1, q2, q3, q4, q5, q6, q7, q8, q9, q10, q11, q12, q13, q14, q15, q16, q17, q18, q19, q20, q21, q22, q23, q24, q25, q26, q27, q28, q29, q30, q31, q32, q33, q34, q35, q36, q37, q38, q39, q40, q41, q42, q43, q44, q45, q46, q47, q48, q49, q50, q51, q52, q53, q54, q55, q56, q57, q58, q59, q60, q61, q62, q63, q64, rfl⟩ := h
  obtain ⟨ad, hst, e0, e1, e2, e3, e4, e5, e6, e7, e8, e9, e10, e11, e12, e13, e14, e15, e16, e17, e18, e19, e20, e21, e22, e23, e24, e25, e26, e27, e28, e29, e30, e31, e32, e33, e34, e35, e36, e37, e38, e39, e40, e41, e42, e43, e44, e45, e46, e47, e48, e49, e50, e51, e52, e53, e54, e55, e56, e57, e58, e59, e60, e61, e62, e63, e64⟩ : ∃ ad : Nat → Nat, (∀ k, 1000 ≤ k → ad k = ad0 k) ∧ ad 0 = h0 ∧ ad 1 = q1 ∧ ad 2 = q2 ∧ ad 3 = q3 ∧ ad 4 = q4 ∧ ad 5 = q5 ∧ ad 6 = q6 ∧ ad 7 = q7 ∧ ad 8 = q8 ∧ ad 9 = q9 ∧ ad 10 = q10 ∧ ad 11 = q11 ∧ ad 12 = q12 ∧ ad 13 = q13 ∧ ad 14 = q14 ∧ ad 15 = q15 ∧ ad 16 = q16 ∧ ad 17 = q17 ∧ ad 18 = q18 ∧ ad 19 = q19 ∧ ad 20 = q20 ∧ ad 21 = q21 ∧ ad 22 = q22 ∧ ad 23 = q23 ∧ ad 24 = q24 ∧ ad 25 = q25 ∧ ad 26 = q26 ∧ ad 27 = q27 ∧ ad 28 = q28 ∧ ad 29 = q29 ∧ ad 30 = q30 ∧ ad 31 = q31 ∧ ad 32 = q32 ∧ ad 33 = q33 ∧ ad 34 = q34 ∧ ad 35 = q35 ∧ ad 36 = q36 ∧ ad 37 = q37 ∧ ad 38 = q38 ∧ ad 39 = q39 ∧ ad 40 = q40 ∧ ad 41 = q41 ∧ ad 42 = q42 ∧ ad 43 = q43 ∧ ad 44 = q44 ∧ ad 45 = q45 ∧ ad 46 = q46 ∧ ad 47 = q47 ∧ ad 48 = q48 ∧ ad 49 = q49 ∧ ad 50 = q50 ∧ ad 51 = q51 ∧ ad 52 = q52 ∧ ad 53 = q53 ∧ ad 54 = q54 ∧ ad 55 = q55 ∧ ad 56 = q56 ∧ ad 57 = q57 ∧ ad 58 = q58 ∧ ad 59 = q59 ∧ ad 60 = q60 ∧ ad 61 = q61 ∧ ad 62 = q62 ∧ ad 63 = q63 ∧ ad 64 = q64 := ⟨zX0ad h0 (q1 :: q2 :: q3 :: q4 :: q5 :: q6 :: q7 :: q8 :: q9 :: q10 :: q11 :: q12 :: q13 :: q14 :: q15 :: q16 :: q17 :: q18 :: q19 :: q20 :: q21 :: q22 :: q23 :: q24 :: q25 :: q26 :: q27 :: q28 :: q29 :: q30 :: q31 :: q32 :: q33 :: q34 :: q35 :: q36 :: q37 :: q38 :: q39 :: q40 :: q41 :: q42 :: q43 :: q44 :: q45 :: q46 :: q47 :: q48 :: q49 :: q50 :: q51 :: q52 :: q53 :: q54 :: q55 :: q56 :: q57 :: q58 :: q59 :: q60 :: q61 :: q62 :: q63 :: q64 :: []) ad0, fun k hk => by unfold zX0ad; rw [if_neg (by omega)], rfl, rfl, rfl, rfl, rfl, rfl, rfl, rfl, rfl, rfl, rfl, rfl, rfl, rfl, rfl, rfl, rfl, rfl, rfl, rfl, rfl, rfl, rfl, rfl, rfl, rfl, rfl, rfl, rfl, rfl, rfl, rfl, rfl, rfl, rfl, rfl, rfl, rfl, rfl, rfl, rfl, rfl, rfl, rfl, rfl, rfl, rfl, rfl, rfl, rfl, rfl, rfl, rfl, rfl, rfl, rfl, rfl, rfl, rfl, rfl, rfl, rfl, rfl, rfl, rfl⟩
  subst e0 e1 e2 e3 e4 e5 e6 e7 e8 e9 e10 e11 e12 e13 e14 e15 e16 e17 e18 e19 e20 e21 e22 e23 e24 e25 e26 e27 e28 e29 e30 e31 e32 e33 e34 e35 e36 e37 e38 e39 e40 e41 e42 e43 e44 e45 e46 e47 e48 e49 e50 e51 e52 e53 e54 e55 e56 e57 e58 e59 e60 e61 e62 e63 e64
  exact ⟨ad, rfl, hst, weq_X l D aC ad⟩
