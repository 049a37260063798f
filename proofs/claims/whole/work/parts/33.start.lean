theorem st_arr {s : State} {args : Array Value} {ty : FieldType} (h : (Cond.arrayClass ty).before args s = true) (hp : ∀ C, ty ≠ .object C) : ∃ cA : ClassId, ArrOfT s cA ty ∧ va_RA s cA ty := by
  obtain ⟨cA, kA, comp, h1, h2, h3⟩ := Cond.arrayClass_spec h
  refine ⟨cA, fun n z => ⟨fun k h => (by cases h), kA, h2, comp, h3⟩, ?_⟩
  cases ty <;> first | exact h1 | exact absurd rfl (hp _)
set_option maxRecDepth 100000 in
set_option maxHeartbeats 4000000 in
theorem st_K {s : State} {args : Array Value} (hts : ∀ w ∈ lw_tbl, w.before args s = true) : ∃ (D : va_G) (aC : Nat → ClassId), va_K D vwCl [(aC 0, zty 0), (aC 1, zty 1), (aC 2, zty 2), (aC 3, zty 3)] s := by
  obtain ⟨c0, i0, h0⟩ := u_known (C := RX0) (T := TX0) (N := 5) (n := 5) hts (fun w hw => zTB_lw w (kX0.2.1 w hw)) (hts _ (zTB_lw _ tk_X00))
  obtain ⟨c1, i1, h1⟩ := u_known (C := RX1) (T := TX1) (N := 4) (n := 4) hts (fun w hw => zTB_lw w (kX1.2.1 w hw)) (hts _ (zTB_lw _ tk_X10))
  obtain ⟨c2, i2, h2⟩ := u_known (C := RX2) (T := TX2) (N := 2) (n := 2) hts (fun w hw => zTB_lw w (kX2.2.1 w hw)) (hts _ (zTB_lw _ tk_X20))
  obtain ⟨c3, i3, h3⟩ := u_known (C := RX3) (T := TX3) (N := 15) (n := 15) hts (fun w hw => zTB_lw w (kX3.2.1 w hw)) (hts _ (zTB_lw _ tk_X30))
  obtain ⟨c4, i4, h4⟩ := u_known (C := RX4) (T := TX4) (N := 11) (n := 11) hts (fun w hw => zTB_lw w (kX4.2.1 w hw)) (hts _ (zTB_lw _ tk_X40))
  obtain ⟨c5, i5, h5⟩ := u_known (C := RX5) (T := TX5) (N := 11) (n := 11) hts (fun w hw => zTB_lw w (kX5.2.1 w hw)) (hts _ (zTB_lw _ tk_X50))
  obtain ⟨c6, i6, h6⟩ := u_known (C := RX6) (T := TX6) (N := 9) (n := 9) hts (fun w hw => zTB_lw w (kX6.2.1 w hw)) (hts _ (zTB_lw _ tk_X60))
  obtain ⟨c7, i7, h7⟩ := u_known (C := RX7) (T := TX7) (N := 2) (n := 2) hts (fun w hw => zTB_lw w (kX7.2.1 w hw)) (hts _ (zTB_lw _ tk_X70))
  obtain ⟨c8, i8, h8⟩ := u_known (C := RX8) (T := TX8) (N := 13) (n := 13) hts (fun w hw => zTB_lw w (kX8.2.1 w hw)) (hts _ (zTB_lw _ tk_X80))
  obtain ⟨c9, i9, h9⟩ := u_known (C := RX9) (T := TX9) (N := 4) (n := 4) hts (fun w hw => zTB_lw w (kX9.2.1 w hw)) (hts _ (zTB_lw _ tk_X90))
  obtain ⟨c10, i10, h10⟩ := u_known (C := RX10) (T := TX10) (N := 2) (n := 2) hts (fun w hw => zTB_lw w (kX10.2.1 w hw)) (hts _ (zTB_lw _ tk_X100))
  obtain ⟨c11, i11, h11⟩ := u_known (C := RX11) (T := TX11) (N := 10) (n := 10) hts (fun w hw => zTB_lw w (kX11.2.1 w hw)) (hts _ (zTB_lw _ tk_X110))
  obtain ⟨c12, i12, h12⟩ := u_known (C := RX12) (T := TX12) (N := 83) (n := 83) hts (fun w hw => zTB_lw w (kX12.2.1 w hw)) (hts _ (zTB_lw _ tk_X120))
  obtain ⟨a0, g0⟩ := st_arr (hts _ (zTB_lw _ tw_aint)) (fun C h => by cases h)
  obtain ⟨a1, g1⟩ := st_arr (hts _ (zTB_lw _ tw_abyte)) (fun C h => by cases h)
  obtain ⟨a2, g2⟩ := st_arr (hts _ (zTB_lw _ tw_aboolean)) (fun C h => by cases h)
  obtain ⟨a3, g3⟩ := st_arr (hts _ (zTB_lw _ tw_along)) (fun C h => by cases h)
  refine ⟨(fun k => [c0, c1, c2, c3, c4, c5, c6, c7, c8, c9, c10, c11, c12].getD k c0, fun k => [i0, i1, i2, i3, i4, i5, i6, i7, i8, i9, i10, i11, i12].getD k i0), fun t => [a0, a1, a2, a3].getD t a0, fun k q hq => ?_, fun k q hq => ?_⟩
  · match k, hq with
    | 0, hq => cases hq; exact h0
    | 1, hq => cases hq; exact h1
    | 2, hq => cases hq; exact h2
    | 3, hq => cases hq; exact h3
    | 4, hq => cases hq; exact h4
    | 5, hq => cases hq; exact h5
    | 6, hq => cases hq; exact h6
    | 7, hq => cases hq; exact h7
    | 8, hq => cases hq; exact h8
    | 9, hq => cases hq; exact h9
    | 10, hq => cases hq; exact h10
    | 11, hq => cases hq; exact h11
    | 12, hq => cases hq; exact h12
    | k + 13, hq => simp [vwCl] at hq
  · match k, hq with
    | 0, hq => cases hq; exact g0
    | 1, hq => cases hq; exact g1
    | 2, hq => cases hq; exact g2
    | 3, hq => cases hq; exact g3
    | k + 4, hq => simp at hq
