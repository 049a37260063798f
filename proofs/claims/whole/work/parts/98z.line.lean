/-! ===== phase 2: a line ===== -/
noncomputable def mChain (z1 : Int64) (M10 : Mem) : Option Mem :=
    b1_ (α := Mem) (
      if (lg_cmp z1 1802071652) = 0 then
        gd_ (inb (M10.1 0 42) (2) = true) (
        bo_ (X12_kindHere M10) fun v13 =>
        bp_ (X12_fresh v13 M10) fun l14 M15 =>
        gd_ (inb ((3 * (M10.1 0 42)) + (M10.1 3 ((M10.1 0 42).toNatClampNeg))) (6) = true) (
        lt_ (uL M15 26 (((3 * (M10.1 0 42)) + (M10.1 3 ((M10.1 0 42).toNatClampNeg))).toNatClampNeg) l14) fun M17 =>
        gd_ (inb (M17.1 0 42) (2) = true) (
        lt_ (uI M17 3 ((M17.1 0 42).toNatClampNeg) ((M17.1 3 ((M17.1 0 42).toNatClampNeg)) + 1)) fun M19 =>
        some M19)))
      else
      some M10) fun M20 =>
    b1_ (α := Mem) (
      if (lg_cmp z1 7168366) = 0 then
        bo_ (X12_readMan M20) fun M22 =>
        some M22
      else
      some M20) fun M23 =>
    b1_ (α := Mem) (
      if (lg_cmp z1 483006772069) = 0 then
        bo_ (X12_readSum 14 16 60 M23) fun M25 =>
        some M25
      else
      some M23) fun M26 =>
    b1_ (α := Mem) (
      if (lg_cmp z1 7364985) = 0 then
        bo_ (X12_readSum 15 17 9 M26) fun M28 =>
        some M28
      else
      some M26) fun M29 =>
    b1_ (α := Mem) (
      if (lg_cmp z1 448377677669) = 0 then
        bo_ (X12_readHedge M29) fun M31 =>
        some M31
      else
      some M29) fun M32 =>
    b1_ (α := Mem) (
      if (lg_cmp z1 1918989413) = 0 then
        bo_ (X12_readRate M32) fun M34 =>
        some M34
      else
      some M32) fun M35 =>
    b1_ (α := Mem) (
      if (lg_cmp z1 1651470187) = 0 then
        gd_ (inb (M35.1 0 42) (2) = true) (
        bp_ (X12_numeral 0 99 M35) fun v38 M39 =>
        gd_ (inb ((5 * (M35.1 0 42)) + (M35.1 5 ((M35.1 0 42).toNatClampNeg))) (10) = true) (
        lt_ (uI M39 20 (((5 * (M35.1 0 42)) + (M35.1 5 ((M35.1 0 42).toNatClampNeg))).toNatClampNeg) v38) fun M41 =>
        gd_ (inb (M41.1 0 42) (2) = true) (
        lt_ (uI M41 5 ((M41.1 0 42).toNatClampNeg) ((M41.1 5 ((M41.1 0 42).toNatClampNeg)) + 1)) fun M43 =>
        some M43)))
      else
      some M35) fun M44 =>
    b1_ (α := Mem) (
      if (lg_cmp z1 1735552887) = 0 then
        gd_ (inb (M44.1 0 42) (2) = true) (
        lt_ (uI M44 23 ((M44.1 0 42).toNatClampNeg) 1) fun M47 =>
        bo_ (X12_readRule 0 M47) fun M48 =>
        some M48)
      else
      some M44) fun M49 =>
    b1_ (α := Mem) (
      if (lg_cmp z1 448546566771) = 0 then
        gd_ (inb (M49.1 0 42) (2) = true) (
        lt_ (uI M49 24 ((M49.1 0 42).toNatClampNeg) 1) fun M52 =>
        bp_ (X12_numeral 1 8 M52) fun v53 M54 =>
        gd_ (inb (M52.1 0 42) (2) = true) (
        lt_ (uI M54 8 ((M52.1 0 42).toNatClampNeg) v53) fun M56 =>
        some M56))
      else
      some M49) fun M57 =>
    b1_ (α := Mem) (
      if (lg_cmp z1 1685217655) = 0 then
        gd_ (inb (M57.1 0 42) (2) = true) (
        lt_ (uI M57 25 ((M57.1 0 42).toNatClampNeg) 1) fun M60 =>
        bp_ (X12_numeral 0 999 M60) fun v61 M62 =>
        gd_ (inb (M60.1 0 42) (2) = true) (
        lt_ (uI M62 9 ((M60.1 0 42).toNatClampNeg) v61) fun M64 =>
        some M64))
      else
      some M57) fun M65 =>
    bo_ (X12_isSignHere 59 M65) fun b66 =>
    bo_ (X12_must (b2i (b66)) M65) fun M67 =>
    some M67
noncomputable def mLine (M : Mem) : Option Mem :=
  lt_ (α := Int64) (M.2 0 10) fun z1 =>
  b1_ (α := Mem) (
    b1_ (α := Bool) (
      if (M.1 0 8) = 3 then
        bo_ (X12_isFull M) fun b3 =>
        if b3 = true then
          some true
        else
        some false
      else
      some true) fun t5 =>
    if t5 = true then
      lt_ (X12_misplaced M) fun M7 =>
      some M7
    else
    some M) fun M8 =>
  if (X12_isGood M8) = true then
    bo_ (X12_goOn M8) fun M10 => mChain z1 M10
  else
  some M8
theorem mLine_e (M : Mem) : X12_readLine M = mLine M := rfl
theorem cmp_ne {x y : Int64} (h : x ≠ y) : (lg_cmp x y = 0) = False := eq_false fun z => h (lgz.mp z)
theorem cmp_eq {x : Int64} : (lg_cmp x x = 0) = True := eq_true (lgz.mpr rfl)
theorem bo_id {x : Option Mem} : bo_ x (fun y => some y) = x := by cases x <;> rfl
theorem mEnd_f : mEnd = fun M => bo_ (X12_isSignHere 59 M) fun b => X12_must (b2i b) M := funext fun M => by unfold mEnd; simp only [bo_id]
theorem chain_kind (M10 : Mem) : mChain 1802071652 M10 = bo_ (mKind M10) mEnd := by
  unfold mChain
  simp only [cmp_eq, cmp_ne (show (1802071652 : Int64) ≠ 7168366 by decide), cmp_ne (show (1802071652 : Int64) ≠ 483006772069 by decide), cmp_ne (show (1802071652 : Int64) ≠ 7364985 by decide), cmp_ne (show (1802071652 : Int64) ≠ 448377677669 by decide), cmp_ne (show (1802071652 : Int64) ≠ 1918989413 by decide), cmp_ne (show (1802071652 : Int64) ≠ 1651470187 by decide), cmp_ne (show (1802071652 : Int64) ≠ 1735552887 by decide), cmp_ne (show (1802071652 : Int64) ≠ 448546566771 by decide), cmp_ne (show (1802071652 : Int64) ≠ 1685217655 by decide), ↓reduceIte, b1_s, bo_id]
  rw [mEnd_f]
  first
    | rfl
    | (unfold mGrow; simp only [bo_id]; rfl)
theorem chain_man (M10 : Mem) : mChain 7168366 M10 = bo_ (X12_readMan M10) mEnd := by
  unfold mChain
  simp only [cmp_eq, cmp_ne (show (7168366 : Int64) ≠ 1802071652 by decide), cmp_ne (show (7168366 : Int64) ≠ 483006772069 by decide), cmp_ne (show (7168366 : Int64) ≠ 7364985 by decide), cmp_ne (show (7168366 : Int64) ≠ 448377677669 by decide), cmp_ne (show (7168366 : Int64) ≠ 1918989413 by decide), cmp_ne (show (7168366 : Int64) ≠ 1651470187 by decide), cmp_ne (show (7168366 : Int64) ≠ 1735552887 by decide), cmp_ne (show (7168366 : Int64) ≠ 448546566771 by decide), cmp_ne (show (7168366 : Int64) ≠ 1685217655 by decide), ↓reduceIte, b1_s, bo_id]
  rw [mEnd_f]
  first
    | rfl
    | (unfold mGrow; simp only [bo_id]; rfl)
theorem chain_purse (M10 : Mem) : mChain 483006772069 M10 = bo_ (X12_readSum 14 16 60 M10) mEnd := by
  unfold mChain
  simp only [cmp_eq, cmp_ne (show (483006772069 : Int64) ≠ 1802071652 by decide), cmp_ne (show (483006772069 : Int64) ≠ 7168366 by decide), cmp_ne (show (483006772069 : Int64) ≠ 7364985 by decide), cmp_ne (show (483006772069 : Int64) ≠ 448377677669 by decide), cmp_ne (show (483006772069 : Int64) ≠ 1918989413 by decide), cmp_ne (show (483006772069 : Int64) ≠ 1651470187 by decide), cmp_ne (show (483006772069 : Int64) ≠ 1735552887 by decide), cmp_ne (show (483006772069 : Int64) ≠ 448546566771 by decide), cmp_ne (show (483006772069 : Int64) ≠ 1685217655 by decide), ↓reduceIte, b1_s, bo_id]
  rw [mEnd_f]
  first
    | rfl
    | (unfold mGrow; simp only [bo_id]; rfl)
theorem chain_pay (M10 : Mem) : mChain 7364985 M10 = bo_ (X12_readSum 15 17 9 M10) mEnd := by
  unfold mChain
  simp only [cmp_eq, cmp_ne (show (7364985 : Int64) ≠ 1802071652 by decide), cmp_ne (show (7364985 : Int64) ≠ 7168366 by decide), cmp_ne (show (7364985 : Int64) ≠ 483006772069 by decide), cmp_ne (show (7364985 : Int64) ≠ 448377677669 by decide), cmp_ne (show (7364985 : Int64) ≠ 1918989413 by decide), cmp_ne (show (7364985 : Int64) ≠ 1651470187 by decide), cmp_ne (show (7364985 : Int64) ≠ 1735552887 by decide), cmp_ne (show (7364985 : Int64) ≠ 448546566771 by decide), cmp_ne (show (7364985 : Int64) ≠ 1685217655 by decide), ↓reduceIte, b1_s, bo_id]
  rw [mEnd_f]
  first
    | rfl
    | (unfold mGrow; simp only [bo_id]; rfl)
theorem chain_hedge (M10 : Mem) : mChain 448377677669 M10 = bo_ (X12_readHedge M10) mEnd := by
  unfold mChain
  simp only [cmp_eq, cmp_ne (show (448377677669 : Int64) ≠ 1802071652 by decide), cmp_ne (show (448377677669 : Int64) ≠ 7168366 by decide), cmp_ne (show (448377677669 : Int64) ≠ 483006772069 by decide), cmp_ne (show (448377677669 : Int64) ≠ 7364985 by decide), cmp_ne (show (448377677669 : Int64) ≠ 1918989413 by decide), cmp_ne (show (448377677669 : Int64) ≠ 1651470187 by decide), cmp_ne (show (448377677669 : Int64) ≠ 1735552887 by decide), cmp_ne (show (448377677669 : Int64) ≠ 448546566771 by decide), cmp_ne (show (448377677669 : Int64) ≠ 1685217655 by decide), ↓reduceIte, b1_s, bo_id]
  rw [mEnd_f]
  first
    | rfl
    | (unfold mGrow; simp only [bo_id]; rfl)
theorem chain_rate (M10 : Mem) : mChain 1918989413 M10 = bo_ (X12_readRate M10) mEnd := by
  unfold mChain
  simp only [cmp_eq, cmp_ne (show (1918989413 : Int64) ≠ 1802071652 by decide), cmp_ne (show (1918989413 : Int64) ≠ 7168366 by decide), cmp_ne (show (1918989413 : Int64) ≠ 483006772069 by decide), cmp_ne (show (1918989413 : Int64) ≠ 7364985 by decide), cmp_ne (show (1918989413 : Int64) ≠ 448377677669 by decide), cmp_ne (show (1918989413 : Int64) ≠ 1651470187 by decide), cmp_ne (show (1918989413 : Int64) ≠ 1735552887 by decide), cmp_ne (show (1918989413 : Int64) ≠ 448546566771 by decide), cmp_ne (show (1918989413 : Int64) ≠ 1685217655 by decide), ↓reduceIte, b1_s, bo_id]
  rw [mEnd_f]
  first
    | rfl
    | (unfold mGrow; simp only [bo_id]; rfl)
theorem chain_book (M10 : Mem) : mChain 1651470187 M10 = bo_ (mBook M10) mEnd := by
  unfold mChain
  simp only [cmp_eq, cmp_ne (show (1651470187 : Int64) ≠ 1802071652 by decide), cmp_ne (show (1651470187 : Int64) ≠ 7168366 by decide), cmp_ne (show (1651470187 : Int64) ≠ 483006772069 by decide), cmp_ne (show (1651470187 : Int64) ≠ 7364985 by decide), cmp_ne (show (1651470187 : Int64) ≠ 448377677669 by decide), cmp_ne (show (1651470187 : Int64) ≠ 1918989413 by decide), cmp_ne (show (1651470187 : Int64) ≠ 1735552887 by decide), cmp_ne (show (1651470187 : Int64) ≠ 448546566771 by decide), cmp_ne (show (1651470187 : Int64) ≠ 1685217655 by decide), ↓reduceIte, b1_s, bo_id]
  rw [mEnd_f]
  first
    | rfl
    | (unfold mGrow; simp only [bo_id]; rfl)
theorem chain_grow (M10 : Mem) : mChain 1735552887 M10 = bo_ (mGrow M10) mEnd := by
  unfold mChain
  simp only [cmp_eq, cmp_ne (show (1735552887 : Int64) ≠ 1802071652 by decide), cmp_ne (show (1735552887 : Int64) ≠ 7168366 by decide), cmp_ne (show (1735552887 : Int64) ≠ 483006772069 by decide), cmp_ne (show (1735552887 : Int64) ≠ 7364985 by decide), cmp_ne (show (1735552887 : Int64) ≠ 448377677669 by decide), cmp_ne (show (1735552887 : Int64) ≠ 1918989413 by decide), cmp_ne (show (1735552887 : Int64) ≠ 1651470187 by decide), cmp_ne (show (1735552887 : Int64) ≠ 448546566771 by decide), cmp_ne (show (1735552887 : Int64) ≠ 1685217655 by decide), ↓reduceIte, b1_s, bo_id]
  rw [mEnd_f]
  first
    | rfl
    | (unfold mGrow; simp only [bo_id]; rfl)
theorem chain_hours (M10 : Mem) : mChain 448546566771 M10 = bo_ (mHours M10) mEnd := by
  unfold mChain
  simp only [cmp_eq, cmp_ne (show (448546566771 : Int64) ≠ 1802071652 by decide), cmp_ne (show (448546566771 : Int64) ≠ 7168366 by decide), cmp_ne (show (448546566771 : Int64) ≠ 483006772069 by decide), cmp_ne (show (448546566771 : Int64) ≠ 7364985 by decide), cmp_ne (show (448546566771 : Int64) ≠ 448377677669 by decide), cmp_ne (show (448546566771 : Int64) ≠ 1918989413 by decide), cmp_ne (show (448546566771 : Int64) ≠ 1651470187 by decide), cmp_ne (show (448546566771 : Int64) ≠ 1735552887 by decide), cmp_ne (show (448546566771 : Int64) ≠ 1685217655 by decide), ↓reduceIte, b1_s, bo_id]
  rw [mEnd_f]
  first
    | rfl
    | (unfold mGrow; simp only [bo_id]; rfl)
theorem chain_draw (M10 : Mem) : mChain 1685217655 M10 = bo_ (mDraw M10) mEnd := by
  unfold mChain
  simp only [cmp_eq, cmp_ne (show (1685217655 : Int64) ≠ 1802071652 by decide), cmp_ne (show (1685217655 : Int64) ≠ 7168366 by decide), cmp_ne (show (1685217655 : Int64) ≠ 483006772069 by decide), cmp_ne (show (1685217655 : Int64) ≠ 7364985 by decide), cmp_ne (show (1685217655 : Int64) ≠ 448377677669 by decide), cmp_ne (show (1685217655 : Int64) ≠ 1918989413 by decide), cmp_ne (show (1685217655 : Int64) ≠ 1651470187 by decide), cmp_ne (show (1685217655 : Int64) ≠ 1735552887 by decide), cmp_ne (show (1685217655 : Int64) ≠ 448546566771 by decide), ↓reduceIte, b1_s, bo_id]
  rw [mEnd_f]
  first
    | rfl
    | (unfold mGrow; simp only [bo_id]; rfl)
theorem WC_0' : WC 0 = 1802071652 := by decide +kernel
theorem WC_22' : WC 22 = 7168366 := by decide +kernel
theorem WC_25' : WC 25 = 483006772069 := by decide +kernel
theorem WC_26' : WC 26 = 7364985 := by decide +kernel
theorem WC_27' : WC 27 = 448377677669 := by decide +kernel
theorem WC_28' : WC 28 = 1918989413 := by decide +kernel
theorem WC_30' : WC 30 = 1651470187 := by decide +kernel
theorem WC_31' : WC 31 = 1735552887 := by decide +kernel
theorem WC_41' : WC 41 = 448546566771 := by decide +kernel
theorem WC_42' : WC 42 = 1685217655 := by decide +kernel
theorem mLine_go {M M1 : Mem} (h8 : M.1 0 8 = 3) (hf : X12_isFull M = some false) (hg : X12_isGood M = true) (h1 : X12_goOn M = some M1) : X12_readLine M = mChain (M.2 0 10) M1 := by
  rw [mLine_e]
  unfold mLine
  rw [lt_e, if_pos h8, hf, bo_s, if_neg Bool.false_ne_true, b1_s, if_neg Bool.false_ne_true, b1_s, if_pos hg, h1, bo_s]
theorem mLine_no {MX M M1 : Mem} (h8 : ¬ M.1 0 8 = 3 ∨ X12_isFull M = some true) (h1 : X12_misplaced M = M1) (hb : BD MX M1) : X12_readLine M = some M1 := by
  rw [mLine_e]
  unfold mLine
  have e : (if M.1 0 8 = 3 then bo_ (X12_isFull M) fun b3 => if b3 = true then some true else some false else some true) = some true := by
    rcases h8 with z | z
    · rw [if_neg z]
    · split
      · rw [z, bo_s, if_pos rfl]
      · rfl
  rw [lt_e, e, b1_s, if_pos rfl, h1, lt_e, b1_s, hb.bad, if_neg Bool.false_ne_true]
theorem LO.wk {n : Nat} {tx : Nat → Nat} {q q0 w : Nat} {MX MM MX' MM' : Mem} {ok : Bool} (h : LO n tx q w MX MM ok MX' MM') (hq : q0 ≤ q) : LO n tx q0 w MX MM ok MX' MM' := by
  refine ⟨h.1, h.2.1, ?_⟩
  rcases h.2.2 with ⟨y, p', q', mn, kd, bn, hr, y1, y2, y3⟩ | y
  · exact Or.inl ⟨y, p', q', mn, kd, bn, hr, y1, by omega, y3⟩
  · exact Or.inr y
theorem begins0 {M M' : Mem} (h : X6_refuse 2 M = (false, M')) : X4_begins 0 M = some (false, M') := by
  unfold X4_begins
  rw [if_pos rfl, h, lp_s]
theorem begins1 {M M' : Mem} (h : X6_step M = some M') : X4_begins 1 M = some (true, M') := by
  unfold X4_begins
  rw [if_neg (by decide), h, bo_s]
theorem bpid {x : Option (Bool × Mem)} : bp_ x (fun b M => some (b, M)) = x := by cases x <;> rfl
theorem line_c {MX MM : Mem} {n : Nat} {tx : Nat → Nat} {p q w mn kd bn hr : Nat} (h : GD MX MM n tx p q) (hD : DR MX MM w mn kd bn hr) (hpq : p < q) : ∃ ok MX' MM', X4_readLine MX = some (ok, MX') ∧ X12_readLine MM = some MM' ∧ LO n tx (p + 1) w MX MM ok MX' MM' := by
  have hw := hD.1
  have hw1 := hw.2
  obtain ⟨MX1, MM1, p1, q1, s1, s2, fx, fm, gd1, r1, _⟩ := stepG_c h
  have hD1 : DR MX1 MM1 w mn kd bn hr := hD.fr fx.r fm.r
  have hle1 := gd1.1.2.2.2.2.2.le
  obtain ⟨MXz, MMz, z1, z2, oz⟩ := misplaced_c h
  have bdz := out_bad oz
  have wrong : (¬ MM.1 0 8 = 3 ∨ X12_isFull MM = some true) → X4_readLine MX = some (false, MXz) → ∃ ok MX' MM', X4_readLine MX = some (ok, MX') ∧ X12_readLine MM = some MM' ∧ LO n tx (p + 1) w MX MM ok MX' MM' := fun k1 k2 => ⟨false, MXz, MMz, k2, mLine_no k1 z2 bdz, oz.1.x, oz.2.1.m, Or.inr ⟨rfl, bdz⟩⟩
  have right : ∀ (c : Int64) (x : Option (Bool × Mem)) (y : Option Mem) (p' : Nat), X12_isWord c MM = true → X12_isFull MM = some false → X4_readLine MX = x → mChain c MM1 = y → p + 1 ≤ p' → (∃ ok MX' MM', x = some (ok, MX') ∧ y = some MM' ∧ LO n tx p' w MX1 MM1 ok MX' MM') → ∃ ok MX' MM', X4_readLine MX = some (ok, MX') ∧ X12_readLine MM = some MM' ∧ LO n tx (p + 1) w MX MM ok MX' MM' := by
    rintro c x y p' k1 k2 k3 k4 k5 ⟨ok, MX', MM', e1, e2, o⟩
    refine ⟨ok, MX', MM', k3.trans e1, ?_, ?_⟩
    · rw [mLine_go (isWord_l.mp k1).1 k2 h.good s2, (isWord_l.mp k1).2, k4, e2]
    · have o' := o.wk k5
      exact ⟨fx.r.x.tr o'.1, fm.r.m.tr o'.2.1, o'.2.2⟩
  have ex : ∀ x y : Int64, X12_isWord x MM = true → x ≠ y → X12_isWord y MM = false := fun x y e ne => Bool.eq_false_iff.mpr fun e2 => ne ((isWord_l.mp e).2.symm.trans (isWord_l.mp e2).2)
  have w0 := word_c h.1 (w := 0) (by omega)
  rw [WC_0'] at w0
  have w22 := word_c h.1 (w := 22) (by omega)
  rw [WC_22'] at w22
  have w25 := word_c h.1 (w := 25) (by omega)
  rw [WC_25'] at w25
  have w26 := word_c h.1 (w := 26) (by omega)
  rw [WC_26'] at w26
  have w27 := word_c h.1 (w := 27) (by omega)
  rw [WC_27'] at w27
  have w28 := word_c h.1 (w := 28) (by omega)
  rw [WC_28'] at w28
  have w30 := word_c h.1 (w := 30) (by omega)
  rw [WC_30'] at w30
  have w31 := word_c h.1 (w := 31) (by omega)
  rw [WC_31'] at w31
  have w41 := word_c h.1 (w := 41) (by omega)
  rw [WC_41'] at w41
  have w42 := word_c h.1 (w := 42) (by omega)
  rw [WC_42'] at w42
  have c40 : MX.1 4 0 = nI mn := hD.2.1.2.1.1
  have m4 : MM.1 4 w = nI mn := hD.2.1.2.1.2.1
  have c41 : MX.1 4 1 = nI kd := hD.2.1.2.1.2.2.1
  have m3 : MM.1 3 w = nI kd := hD.2.1.2.1.2.2.2.1
  have c42 : MX.1 4 2 = nI bn := hD.2.1.2.1.2.2.2.2.1
  have m5 : MM.1 5 w = nI bn := hD.2.1.2.1.2.2.2.2.2.1
  obtain ⟨g8, g8l, x8, m8⟩ := hD.2.2.2.2.2.2.2.1
  obtain ⟨g9, g9l, x9, m9⟩ := hD.2.2.2.2.2.2.2.2.1
  obtain ⟨g10, g10l, x10, m10⟩ := hD.2.2.2.2.2.2.2.2.2.1
  have hmn := hD.2.1.1.1
  have hkd := hD.2.1.1.2.1
  have hbn := hD.2.1.1.2.2.1
  have gin : ∀ (a : Nat) (v : Int32) (g : Nat), g ≤ 1 → v = nI g → gd_ (v = 0 ∨ v = 1) (some (decide (v = 1))) = some (decide (g = 1)) := fun a v g hg e => by
    rcases (by omega : g = 0 ∨ g = 1) with rfl | rfl <;> rw [e] <;> rfl
  cases e0 : X12_isWord 1802071652 MM with
  | true =>
    have e22 := ex 1802071652 7168366 e0 (by decide)
    have e25 := ex 1802071652 483006772069 e0 (by decide)
    have e26 := ex 1802071652 7364985 e0 (by decide)
    have e27 := ex 1802071652 448377677669 e0 (by decide)
    have e28 := ex 1802071652 1918989413 e0 (by decide)
    have e30 := ex 1802071652 1651470187 e0 (by decide)
    have e31 := ex 1802071652 1735552887 e0 (by decide)
    have e41 := ex 1802071652 448546566771 e0 (by decide)
    have e42 := ex 1802071652 1685217655 e0 (by decide)
    have hx : X4_readLine MX = X4_readKind MX := by
      unfold X4_readLine
      simp only [w0, w22, w25, w26, w27, w28, w30, w31, w41, w42, e0, e22, e25, e26, e27, e28, e30, e31, e41, e42, bo_s, ↓reduceIte, Bool.false_eq_true, bpid]
    have hf : X12_isFull MM = X12_isFull MM := rfl
    conv at hf => rhs; unfold X12_isFull
    simp only [e0, e22, e25, e26, e27, e28, e30, e31, e41, e42, ↓reduceIte, Bool.false_eq_true] at hf
    rw [hw.1, gd_in (by omega) (by omega), nI_clamp (by omega), m3] at hf
    by_cases hN : kd = 3
    · refine wrong (Or.inr (by rw [hf, if_pos (by rw [hN]; rfl)])) (hx.trans ?_)
      unfold X4_readKind
      rw [c41, if_pos (show (3 : Int32) ≤ nI kd by rw [hN]; decide), l1_s, begins0 z1, bp_s, if_neg Bool.false_ne_true]
    · skip
      refine right 1802071652 (xKind MX1) (bo_ (mKind MM1) mEnd) q1 e0 (by rw [hf, if_neg (show ¬ nI kd = 3 from fun y => hN ((nI_eq (b := 3) (by omega) (by omega)).mp y))]) (hx.trans ?_) (chain_kind MM1) (by omega) (lnKind_c gd1 hD1 (by omega))
      unfold X4_readKind
      rw [c41, if_neg (show ¬ (3 : Int32) ≤ nI kd from nI_ge (b := 3) (by omega) (by omega)), l1_s, begins1 s1, bp_s, if_pos rfl]
      rfl
  | false =>
    cases e22 : X12_isWord 7168366 MM with
    | true =>
      have e25 := ex 7168366 483006772069 e22 (by decide)
      have e26 := ex 7168366 7364985 e22 (by decide)
      have e27 := ex 7168366 448377677669 e22 (by decide)
      have e28 := ex 7168366 1918989413 e22 (by decide)
      have e30 := ex 7168366 1651470187 e22 (by decide)
      have e31 := ex 7168366 1735552887 e22 (by decide)
      have e41 := ex 7168366 448546566771 e22 (by decide)
      have e42 := ex 7168366 1685217655 e22 (by decide)
      have hx : X4_readLine MX = X4_readMan MX := by
        unfold X4_readLine
        simp only [w0, w22, w25, w26, w27, w28, w30, w31, w41, w42, e0, e22, e25, e26, e27, e28, e30, e31, e41, e42, bo_s, ↓reduceIte, Bool.false_eq_true, bpid]
      have hf : X12_isFull MM = X12_isFull MM := rfl
      conv at hf => rhs; unfold X12_isFull
      simp only [e0, e22, e25, e26, e27, e28, e30, e31, e41, e42, ↓reduceIte, Bool.false_eq_true] at hf
      rw [hw.1, gd_in (by omega) (by omega), nI_clamp (by omega), m4] at hf
      by_cases hN : mn = 5
      · refine wrong (Or.inr (by rw [hf, if_pos (by rw [hN]; rfl)])) (hx.trans ?_)
        unfold X4_readMan
        rw [c40, lt_e, if_pos (show (5 : Int32) ≤ nI mn by rw [hN]; decide), l1_s, begins0 z1, bp_s, if_neg Bool.false_ne_true]
      · skip
        refine right 7168366 (xMan (nI mn) MX1) (bo_ (X12_readMan MM1) mEnd) q1 e22 (by rw [hf, if_neg (show ¬ nI mn = 5 from fun y => hN ((nI_eq (b := 5) (by omega) (by omega)).mp y))]) (hx.trans ?_) (chain_man MM1) (by omega) (lnMan_c gd1 hD1 (by omega))
        unfold X4_readMan
        rw [c40, lt_e, if_neg (show ¬ (5 : Int32) ≤ nI mn from nI_ge (b := 5) (by omega) (by omega)), l1_s, begins1 s1, bp_s, if_pos rfl]
        rfl
    | false =>
      cases e25 : X12_isWord 483006772069 MM with
      | true =>
        have e26 := ex 483006772069 7364985 e25 (by decide)
        have e27 := ex 483006772069 448377677669 e25 (by decide)
        have e28 := ex 483006772069 1918989413 e25 (by decide)
        have e30 := ex 483006772069 1651470187 e25 (by decide)
        have e31 := ex 483006772069 1735552887 e25 (by decide)
        have e41 := ex 483006772069 448546566771 e25 (by decide)
        have e42 := ex 483006772069 1685217655 e25 (by decide)
        have hx : X4_readLine MX = X4_readHours 8 20 60 MX := by
          unfold X4_readLine
          simp only [w0, w22, w25, w26, w27, w28, w30, w31, w41, w42, e0, e22, e25, e26, e27, e28, e30, e31, e41, e42, bo_s, ↓reduceIte, Bool.false_eq_true, bpid]
        have hf : X12_isFull MM = X12_isFull MM := rfl
        conv at hf => rhs; unfold X12_isFull
        simp only [e0, e22, e25, e26, e27, e28, e30, e31, e41, e42, ↓reduceIte, Bool.false_eq_true] at hf
        refine right 483006772069 (xPurse MX1) (bo_ (X12_readSum 14 16 60 MM1) mEnd) q1 e25 (hf) (hx.trans ?_) (chain_purse MM1) (by omega) (lnPurse_c gd1 hD1)
        unfold X4_readHours
        rw [s1, bo_s]
        rfl
      | false =>
        cases e26 : X12_isWord 7364985 MM with
        | true =>
          have e27 := ex 7364985 448377677669 e26 (by decide)
          have e28 := ex 7364985 1918989413 e26 (by decide)
          have e30 := ex 7364985 1651470187 e26 (by decide)
          have e31 := ex 7364985 1735552887 e26 (by decide)
          have e41 := ex 7364985 448546566771 e26 (by decide)
          have e42 := ex 7364985 1685217655 e26 (by decide)
          have hx : X4_readLine MX = X4_readHours 9 21 9 MX := by
            unfold X4_readLine
            simp only [w0, w22, w25, w26, w27, w28, w30, w31, w41, w42, e0, e22, e25, e26, e27, e28, e30, e31, e41, e42, bo_s, ↓reduceIte, Bool.false_eq_true, bpid]
          have hf : X12_isFull MM = X12_isFull MM := rfl
          conv at hf => rhs; unfold X12_isFull
          simp only [e0, e22, e25, e26, e27, e28, e30, e31, e41, e42, ↓reduceIte, Bool.false_eq_true] at hf
          refine right 7364985 (xPay MX1) (bo_ (X12_readSum 15 17 9 MM1) mEnd) q1 e26 (hf) (hx.trans ?_) (chain_pay MM1) (by omega) (lnPay_c gd1 hD1)
          unfold X4_readHours
          rw [s1, bo_s]
          rfl
        | false =>
          cases e27 : X12_isWord 448377677669 MM with
          | true =>
            have e28 := ex 448377677669 1918989413 e27 (by decide)
            have e30 := ex 448377677669 1651470187 e27 (by decide)
            have e31 := ex 448377677669 1735552887 e27 (by decide)
            have e41 := ex 448377677669 448546566771 e27 (by decide)
            have e42 := ex 448377677669 1685217655 e27 (by decide)
            have hx : X4_readLine MX = X4_readHedge MX := by
              unfold X4_readLine
              simp only [w0, w22, w25, w26, w27, w28, w30, w31, w41, w42, e0, e22, e25, e26, e27, e28, e30, e31, e41, e42, bo_s, ↓reduceIte, Bool.false_eq_true, bpid]
            have hf : X12_isFull MM = X12_isFull MM := rfl
            conv at hf => rhs; unfold X12_isFull
            simp only [e0, e22, e25, e26, e27, e28, e30, e31, e41, e42, ↓reduceIte, Bool.false_eq_true] at hf
            refine right 448377677669 (xHedge MX1) (bo_ (X12_readHedge MM1) mEnd) q1 e27 (hf) (hx.trans ?_) (chain_hedge MM1) (by omega) (hedge_c gd1 hD1)
            unfold X4_readHedge
            rw [s1, bo_s]
            rfl
          | false =>
            cases e28 : X12_isWord 1918989413 MM with
            | true =>
              have e30 := ex 1918989413 1651470187 e28 (by decide)
              have e31 := ex 1918989413 1735552887 e28 (by decide)
              have e41 := ex 1918989413 448546566771 e28 (by decide)
              have e42 := ex 1918989413 1685217655 e28 (by decide)
              have hx : X4_readLine MX = X4_readRate MX := by
                unfold X4_readLine
                simp only [w0, w22, w25, w26, w27, w28, w30, w31, w41, w42, e0, e22, e25, e26, e27, e28, e30, e31, e41, e42, bo_s, ↓reduceIte, Bool.false_eq_true, bpid]
              have hf : X12_isFull MM = X12_isFull MM := rfl
              conv at hf => rhs; unfold X12_isFull
              simp only [e0, e22, e25, e26, e27, e28, e30, e31, e41, e42, ↓reduceIte, Bool.false_eq_true] at hf
              refine right 1918989413 (xRate MX1) (bo_ (X12_readRate MM1) mEnd) q1 e28 (hf) (hx.trans ?_) (chain_rate MM1) (by omega) (lnRate_c gd1 hD1)
              unfold X4_readRate
              rw [s1, bo_s]
              rfl
            | false =>
              cases e30 : X12_isWord 1651470187 MM with
              | true =>
                have e31 := ex 1651470187 1735552887 e30 (by decide)
                have e41 := ex 1651470187 448546566771 e30 (by decide)
                have e42 := ex 1651470187 1685217655 e30 (by decide)
                have hx : X4_readLine MX = X4_readBook MX := by
                  unfold X4_readLine
                  simp only [w0, w22, w25, w26, w27, w28, w30, w31, w41, w42, e0, e22, e25, e26, e27, e28, e30, e31, e41, e42, bo_s, ↓reduceIte, Bool.false_eq_true, bpid]
                have hf : X12_isFull MM = X12_isFull MM := rfl
                conv at hf => rhs; unfold X12_isFull
                simp only [e0, e22, e25, e26, e27, e28, e30, e31, e41, e42, ↓reduceIte, Bool.false_eq_true] at hf
                rw [hw.1, gd_in (by omega) (by omega), nI_clamp (by omega), m5] at hf
                by_cases hN : bn = 5
                · refine wrong (Or.inr (by rw [hf, if_pos (by rw [hN]; rfl)])) (hx.trans ?_)
                  unfold X4_readBook
                  rw [c42, if_pos (show (5 : Int32) ≤ nI bn by rw [hN]; decide), l1_s, begins0 z1, bp_s, if_neg Bool.false_ne_true]
                · skip
                  refine right 1651470187 (xBook MX1) (bo_ (mBook MM1) mEnd) q1 e30 (by rw [hf, if_neg (show ¬ nI bn = 5 from fun y => hN ((nI_eq (b := 5) (by omega) (by omega)).mp y))]) (hx.trans ?_) (chain_book MM1) (by omega) (book_c gd1 hD1 (by omega))
                  unfold X4_readBook
                  rw [c42, if_neg (show ¬ (5 : Int32) ≤ nI bn from nI_ge (b := 5) (by omega) (by omega)), l1_s, begins1 s1, bp_s, if_pos rfl]
                  rfl
              | false =>
                cases e31 : X12_isWord 1735552887 MM with
                | true =>
                  have e41 := ex 1735552887 448546566771 e31 (by decide)
                  have e42 := ex 1735552887 1685217655 e31 (by decide)
                  have hx : X4_readLine MX = X4_readGrow MX := by
                    unfold X4_readLine
                    simp only [w0, w22, w25, w26, w27, w28, w30, w31, w41, w42, e0, e22, e25, e26, e27, e28, e30, e31, e41, e42, bo_s, ↓reduceIte, Bool.false_eq_true, bpid]
                  have hf : X12_isFull MM = X12_isFull MM := rfl
                  conv at hf => rhs; unfold X12_isFull
                  simp only [e0, e22, e25, e26, e27, e28, e30, e31, e41, e42, ↓reduceIte, Bool.false_eq_true] at hf
                  rw [hw.1, gd_in (by omega) (by omega), nI_clamp (by omega), gin 0 _ g8 g8l m8] at hf
                  by_cases hN : g8 = 1
                  · refine wrong (Or.inr (by rw [hf, decide_eq_true hN])) (hx.trans ?_)
                    unfold X4_readGrow
                    rw [x8, if_neg (show ¬ nI g8 = 0 by rw [hN]; decide), l1_s, begins0 z1, bp_s, if_neg Bool.false_ne_true]
                  · skip
                    refine right 1735552887 (xGrow MX1) (bo_ (mGrow MM1) mEnd) p1 e31 (by rw [hf, decide_eq_false hN]) (hx.trans ?_) (chain_grow MM1) (by omega) (lnGrow_c gd1 hD1 (by rw [fx.r.1 3 8 (by decide), x8]; congr 1; omega))
                    unfold X4_readGrow
                    rw [x8, if_pos (show nI g8 = 0 by rw [show g8 = 0 by omega]; rfl), l1_s, begins1 s1, bp_s, if_pos rfl]
                    rfl
                | false =>
                  cases e41 : X12_isWord 448546566771 MM with
                  | true =>
                    have e42 := ex 448546566771 1685217655 e41 (by decide)
                    have hx : X4_readLine MX = X4_readHoursOfWeek MX := by
                      unfold X4_readLine
                      simp only [w0, w22, w25, w26, w27, w28, w30, w31, w41, w42, e0, e22, e25, e26, e27, e28, e30, e31, e41, e42, bo_s, ↓reduceIte, Bool.false_eq_true, bpid]
                    have hf : X12_isFull MM = X12_isFull MM := rfl
                    conv at hf => rhs; unfold X12_isFull
                    simp only [e0, e22, e25, e26, e27, e28, e30, e31, e41, e42, ↓reduceIte, Bool.false_eq_true] at hf
                    rw [hw.1, gd_in (by omega) (by omega), nI_clamp (by omega), gin 0 _ g9 g9l m9] at hf
                    by_cases hN : g9 = 1
                    · refine wrong (Or.inr (by rw [hf, decide_eq_true hN])) (hx.trans ?_)
                      unfold X4_readHoursOfWeek
                      rw [x9, if_neg (show ¬ nI g9 = 0 by rw [hN]; decide), l1_s, begins0 z1, bp_s, if_neg Bool.false_ne_true]
                    · skip
                      refine right 448546566771 (xHours MX1) (bo_ (mHours MM1) mEnd) q1 e41 (by rw [hf, decide_eq_false hN]) (hx.trans ?_) (chain_hours MM1) (by omega) (hours_c gd1 hD1)
                      unfold X4_readHoursOfWeek
                      rw [x9, if_pos (show nI g9 = 0 by rw [show g9 = 0 by omega]; rfl), l1_s, begins1 s1, bp_s, if_pos rfl]
                      rfl
                  | false =>
                    cases e42 : X12_isWord 1685217655 MM with
                    | true =>
                      have hx : X4_readLine MX = X4_readDraw MX := by
                        unfold X4_readLine
                        simp only [w0, w22, w25, w26, w27, w28, w30, w31, w41, w42, e0, e22, e25, e26, e27, e28, e30, e31, e41, e42, bo_s, ↓reduceIte, Bool.false_eq_true, bpid]
                      have hf : X12_isFull MM = X12_isFull MM := rfl
                      conv at hf => rhs; unfold X12_isFull
                      simp only [e0, e22, e25, e26, e27, e28, e30, e31, e41, e42, ↓reduceIte, Bool.false_eq_true] at hf
                      rw [hw.1, gd_in (by omega) (by omega), nI_clamp (by omega), gin 0 _ g10 g10l m10] at hf
                      by_cases hN : g10 = 1
                      · refine wrong (Or.inr (by rw [hf, decide_eq_true hN])) (hx.trans ?_)
                        unfold X4_readDraw
                        rw [x10, if_neg (show ¬ nI g10 = 0 by rw [hN]; decide), l1_s, begins0 z1, bp_s, if_neg Bool.false_ne_true]
                      · skip
                        refine right 1685217655 (xDraw MX1) (bo_ (mDraw MM1) mEnd) q1 e42 (by rw [hf, decide_eq_false hN]) (hx.trans ?_) (chain_draw MM1) (by omega) (draw_c gd1 hD1)
                        unfold X4_readDraw
                        rw [x10, if_pos (show nI g10 = 0 by rw [show g10 = 0 by omega]; rfl), l1_s, begins1 s1, bp_s, if_pos rfl]
                        rfl
                    | false =>
                      refine wrong ?_ ?_
                      · refine Or.inr ?_
                        unfold X12_isFull
                        simp only [e0, e22, e25, e26, e27, e28, e30, e31, e41, e42, ↓reduceIte, Bool.false_eq_true]
                      · unfold X4_readLine
                        simp only [w0, w22, w25, w26, w27, w28, w30, w31, w41, w42, e0, e22, e25, e26, e27, e28, e30, e31, e41, e42, bo_s, ↓reduceIte, Bool.false_eq_true, z1, lp_s]
