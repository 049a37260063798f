/-! ===== phase 2: names known and new ===== -/
section PIECE
variable {MX MM : Mem} {n : Nat} {tx : Nat → Nat} {p q : Nat}
/-- the names kept so far -/
def NS (MX MM : Mem) (a a2 base cnt : Nat) : Prop := cnt ≤ 5 ∧ cnt ≤ zlen zTX a ∧ base + cnt ≤ zlen zTM a2 ∧ base < 100 ∧ ∀ k, k < cnt → NM (MX.2 a k) (MM.2 a2 (base + k))
theorem search_c {a a2 base cnt : Nat} (h : GD MX MM n tx p q) (hN : NS MX MM a a2 base cnt) (h8 : MM.1 0 8 = 2) : ∃ t, X4_search a (nI cnt) MX = some t ∧ X12_here a2 (nI base) (nI cnt) MM = some t ∧ (t = -1 ∨ ∃ k, k < cnt ∧ t = nI k) := by
  obtain ⟨n1, n2, n3, n4, n5⟩ := hN
  have hm := (h.name h8).2
  have hz := zlen_ltX a
  have key := two_zFU (σ := Int32) (σ' := Int32) (fun N s => X4_search_L1 a (nI cnt) MX N s) (fun N s => X12_here_L1 a2 (nI base) (nI cnt) MM N s) (fun d s s' => ∃ i, i + d = cnt ∧ s = nI i ∧ s' = nI i) (fun t t' => t = t' ∧ (t = -1 ∨ ∃ k, k < cnt ∧ t = nI k)) ?_ cnt 0 0 (by omega) ⟨0, by omega, rfl, rfl⟩
  · obtain ⟨t, t', e1, e2, rfl, q⟩ := key
    exact ⟨t, e1, e2, q⟩
  · rintro N N' d s s' ⟨i, hd, rfl, rfl⟩
    by_cases hi : i = cnt
    · left
      refine ⟨-1, -1, ?_, ?_, rfl, Or.inl rfl⟩
      · show X4_search_L1 a (nI cnt) MX (N + 1) (nI i) = _
        rw [X4_search_L1, if_pos (nI_le (by omega) (by omega))]
      · show X12_here_L1 a2 (nI base) (nI cnt) MM (N' + 1) (nI i) = _
        rw [X12_here_L1, if_pos (nI_le (by omega) (by omega))]
    · have hic : i < cnt := by omega
      have sx : X4_search_L1 a (nI cnt) MX (N + 1) (nI i) = if MX.2 a i = MX.2 16 2 then some (nI i) else X4_search_L1 a (nI cnt) MX N (nI (i + 1)) := by
        rw [X4_search_L1, if_neg (nI_ge hic (by omega)), if_neg (nI_ge (by omega) (by omega)), gd_in (by omega) (by omega), nI_clamp (by omega), show nI i + 1 = nI (i + 1) from nI_add i 1]
        by_cases z : MX.2 a i = MX.2 16 2
        · rw [if_pos (lgz.mpr z), if_pos z]
        · rw [if_neg (fun y => z (lgz.mp y)), if_neg z]
      have sm : X12_here_L1 a2 (nI base) (nI cnt) MM (N' + 1) (nI i) = if MM.2 a2 (base + i) = MM.2 0 10 then some (nI i) else X12_here_L1 a2 (nI base) (nI cnt) MM N' (nI (i + 1)) := by
        rw [X12_here_L1, if_neg (nI_ge hic (by omega)), if_pos h8, nI_add, gd_in (by omega) (by omega), nI_clamp (by omega), show nI i + 1 = nI (i + 1) from nI_add i 1]
        by_cases z : MM.2 a2 (base + i) = MM.2 0 10
        · rw [if_pos (lgz.mpr z), b1_s, if_neg Bool.false_ne_true, if_pos z]
        · rw [if_neg (fun y => z (lgz.mp y)), b1_s, if_pos rfl, if_neg z]
      have he := (n5 i hic).eq hm
      by_cases z : MX.2 a i = MX.2 16 2
      · left
        exact ⟨nI i, nI i, by show X4_search_L1 a (nI cnt) MX (N + 1) (nI i) = _; rw [sx, if_pos z], by show X12_here_L1 a2 (nI base) (nI cnt) MM (N' + 1) (nI i) = _; rw [sm, if_pos (he.mp z)], rfl, Or.inr ⟨i, hic, rfl⟩⟩
      · right
        exact ⟨d - 1, nI (i + 1), nI (i + 1), by omega, ⟨i + 1, by omega, rfl, rfl⟩, by show X4_search_L1 a (nI cnt) MX (N + 1) (nI i) = _; rw [sx, if_neg z], by show X12_here_L1 a2 (nI base) (nI cnt) MM (N' + 1) (nI i) = _; rw [sm, if_neg (fun y => z (he.mpr y))]⟩
theorem here_no {a2 base cnt : Nat} (hc : cnt < 1000) (h8 : ¬ MM.1 0 8 = 2) : X12_here a2 (nI base) (nI cnt) MM = some (-1) := by
  have key := up_zFU (σ := Int32) (fun N s => X12_here_L1 a2 (nI base) (nI cnt) MM N s) (fun i s => s = nI i) (fun t => t = -1) cnt (by omega) (by
    rintro N s rfl
    exact ⟨-1, by show X12_here_L1 a2 (nI base) (nI cnt) MM (N + 1) (nI cnt) = _; rw [X12_here_L1, if_pos (nI_le (by omega) (by omega))], rfl⟩) (by
    rintro N i s hi rfl
    left
    refine ⟨nI (i + 1), rfl, ?_⟩
    show X12_here_L1 a2 (nI base) (nI cnt) MM (N + 1) (nI i) = _
    rw [X12_here_L1, if_neg (nI_ge hi (by omega)), if_neg h8, b1_s, if_pos rfl, show nI i + 1 = nI (i + 1) from nI_add i 1]) 0 0 (by omega) rfl
  obtain ⟨t, e, rfl⟩ := key
  exact e
/-- a name that must be known: both have its number and stand at it, or both have the same fault -/
theorem place_c {a a2 base cnt : Nat} (h : GD MX MM n tx p q) (hN : NS MX MM a a2 base cnt) : ∃ t, X12_here a2 (nI base) (nI cnt) MM = some t ∧
    ((∃ k, k < cnt ∧ t = nI k ∧ MM.1 0 8 = 2 ∧ X4_placeOfName a (nI cnt) MX = some (nI k, MX) ∧ ∀ MM' : Mem, X12_goOn MM = some MM' → X12_known t MM = some (nI k, MM')) ∨
     (t = -1 ∧ ∃ MX' MM', X4_placeOfName a (nI cnt) MX = some (-1, MX') ∧ X12_known t MM = some (0, MM') ∧ OUT n tx q MX MM false MX' MM')) := by
  obtain ⟨b, e1, e2⟩ := isName_c h.1
  have n1 := hN.1
  by_cases h8 : MM.1 0 8 = 2
  · have hb : b = true := e2.mpr h8
    subst hb
    have hs : ¬ MX.1 16 1 = 1 := by rw [(h.name h8).1]; decide
    obtain ⟨t, s1, s2, s3⟩ := search_c h hN h8
    refine ⟨t, s2, ?_⟩
    rcases s3 with rfl | ⟨k, k1, rfl⟩
    · right
      obtain ⟨MX', MM', f1, f2, o⟩ := refuse_c h (f := 5) (by omega) (by omega) hs
      refine ⟨rfl, MX', MM', ?_, ?_, o⟩
      · unfold X4_placeOfName
        rw [e1, bo_s, if_pos rfl, s1, bo_s, if_pos rfl, show (5 : Int32) = nI 5 from rfl, f1, lp_s]
      · unfold X12_known
        rw [h.good, if_pos rfl, if_pos h8, if_neg (by decide), show (5 : Int32) = nI 5 from rfl, f2, lt_e, b1_s, if_neg (by decide)]
    · left
      refine ⟨k, k1, rfl, h8, ?_, fun MM' g => ?_⟩
      · unfold X4_placeOfName
        rw [e1, bo_s, if_pos rfl, s1, bo_s, if_neg (nI_nm1 (by omega))]
      · have h0 : (0 : Int32) ≤ nI k := nI_le (a := 0) (b := k) (by omega) (by omega)
        unfold X12_known
        rw [h.good, if_pos rfl, if_pos h8, if_pos h0, g, bo_s, b1_s, if_pos h0]
  · have hb : b = false := Bool.eq_false_iff.mpr fun y => h8 (e2.mp y)
    subst hb
    obtain ⟨MX', MM', f1, f2, o⟩ := misplaced_c h
    refine ⟨-1, here_no (by omega) h8, Or.inr ⟨rfl, MX', MM', ?_, ?_, o⟩⟩
    · unfold X4_placeOfName
      rw [e1, bo_s, if_neg Bool.false_ne_true, f1, lp_s]
    · unfold X12_known
      rw [h.good, if_pos rfl, if_neg h8, f2, lt_e, b1_s, if_neg (by decide)]
/-- a new name: both keep it and go on, or both have the same fault -/
theorem new_c {a a2 base cnt : Nat} (h : GD MX MM n tx p q) (hN : NS MX MM a a2 base cnt) (hc : cnt < zlen zTX a) (ha : a ≠ 16) : ∃ t ok l MX' MM', X12_here a2 (nI base) (nI cnt) MM = some t ∧ X4_newName a (nI cnt) MX = some (ok, MX') ∧ X12_fresh t MM = some (l, MM') ∧
    ((ok = true ∧ NM (MX.2 16 2) l ∧ MX'.2 a cnt = MX.2 16 2 ∧ FMr MM MM' ∧ (∀ a i, a ≠ 16 → MX'.1 a i = MX.1 a i) ∧ (∀ a' i, a' ≠ 16 → ¬ (a' = a ∧ i = cnt) → MX'.2 a' i = MX.2 a' i) ∧ ∃ p' q', GD MX' MM' n tx p' q' ∧ q ≤ p') ∨ (ok = false ∧ OUT n tx q MX MM false MX' MM')) := by
  obtain ⟨b, e1, e2⟩ := isName_c h.1
  have n1 := hN.1
  have hz := zlen_ltX a
  by_cases h8 : MM.1 0 8 = 2
  · have hb : b = true := e2.mpr h8
    subst hb
    have hs : ¬ MX.1 16 1 = 1 := by rw [(h.name h8).1]; decide
    obtain ⟨t, s1, s2, s3⟩ := search_c h hN h8
    rcases s3 with rfl | ⟨k, k1, rfl⟩
    · have h' : GD (uL MX a cnt (MX.2 16 2)) MM n tx p q := by
        obtain ⟨⟨h1, h2, h3, h4, h5, h6⟩, r⟩ := h
        refine ⟨⟨h1, h2, h3, h4, h5, ?_⟩, r⟩
        have e : (uL MX a cnt (MX.2 16 2)).2 16 2 = MX.2 16 2 := by rw [uL_g, if_neg (by omega)]
        unfold TOK at h6 ⊢
        rw [e]
        exact h6
      obtain ⟨MX', MM', p', q', f1, f2, f, g, gd, r1, r2⟩ := stepG_c h'
      refine ⟨-1, true, MM.2 0 10, MX', MM', s2, ?_, ?_, Or.inl ⟨rfl, (h.name h8).2, ?_, g.r, fun a' i z => f.1 a' i (Or.inl z), fun a' i z1 z2 => ?_, p', q', gd, r1⟩⟩
      · unfold X4_newName
        rw [e1, bo_s, if_pos rfl, if_neg (nI_pos (by omega)), if_neg (nI_ge hc (by omega)), l1_s, if_neg Bool.false_ne_true, s1, bo_s, if_pos rfl, gd_in hc (by omega), nI_clamp (by omega), lt_e (uL MX a cnt (MX.2 16 2)), f1, bo_s]
      · unfold X12_fresh
        rw [h.good, if_pos rfl, if_pos h8, if_pos (by decide), l1_s, lt_e (MM.2 0 10), h.good, if_pos rfl, f2, bo_s]
      · rw [f.2 a cnt ha, uL_g, if_pos ⟨rfl, rfl⟩]
      · rw [f.2 a' i z1, uL_g, if_neg z2]
    · obtain ⟨MX', MM', f1, f2, o⟩ := refuse_c h (f := 3) (by omega) (by omega) hs
      have hbd : BD MX' MM' := by
        rcases o.2.2 with ⟨y, _⟩ | ⟨_, y⟩
        · exact absurd y Bool.false_ne_true
        · exact y
      refine ⟨nI k, false, MM'.2 0 10, MX', MM', s2, ?_, ?_, Or.inr ⟨rfl, o⟩⟩
      · unfold X4_newName
        rw [e1, bo_s, if_pos rfl, if_neg (nI_pos (by omega)), if_neg (nI_ge hc (by omega)), l1_s, if_neg Bool.false_ne_true, s1, bo_s, if_neg (nI_nm1 (by omega)), show (3 : Int32) = nI 3 from rfl, f1, lp_s]
      · unfold X12_fresh
        rw [h.good, if_pos rfl, if_pos h8, if_neg (nI_pos (by omega)), show (3 : Int32) = nI 3 from rfl, f2, lt_e, l1_s, lt_e (MM'.2 0 10), hbd.bad, if_neg Bool.false_ne_true]
  · have hb : b = false := Bool.eq_false_iff.mpr fun y => h8 (e2.mp y)
    subst hb
    obtain ⟨MX', MM', f1, f2, o⟩ := misplaced_c h
    have hbd : BD MX' MM' := by
      rcases o.2.2 with ⟨y, _⟩ | ⟨_, y⟩
      · exact absurd y Bool.false_ne_true
      · exact y
    refine ⟨-1, false, MM'.2 0 10, MX', MM', here_no (by omega) h8, ?_, ?_, Or.inr ⟨rfl, o⟩⟩
    · unfold X4_newName
      rw [e1, bo_s, if_neg Bool.false_ne_true, f1, lp_s]
    · unfold X12_fresh
      rw [h.good, if_pos rfl, if_neg h8, f2, lt_e, l1_s, lt_e (MM'.2 0 10), hbd.bad, if_neg Bool.false_ne_true]
end PIECE
