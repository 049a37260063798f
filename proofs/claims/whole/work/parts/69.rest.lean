/-! ===== phase 2: rest ===== -/
def nr (r : Nat → Nat → Nat) : Nat → Nat → Int32 := fun p k => nI (r p k)
/-- rows of the men, such as can be -/
def okR (mn kd : Nat) (r : Nat → Nat → Nat) : Prop := ∀ p, (∀ k, k < 3 → mn ≤ p ∨ kd ≤ k → r p k = 0) ∧ r p 0 + r p 1 + r p 2 ≤ 8
def setR (r : Nat → Nat → Nat) (m : Nat) (w : Nat → Nat) : Nat → Nat → Nat := fun p k => if p = m then w k else r p k
def RX46 (M : Mem) (r : Nat → Nat → Nat) : Prop := ∀ p k, p < 5 → k < 3 → M.1 46 (3 * p + k) = nI (r p k)
def RM44 (M : Mem) (r : Nat → Nat → Nat) : Prop := ∀ p k, p < 5 → k < 3 → M.1 44 (3 * p + k) = nI (r p k)
theorem okR_b {mn kd : Nat} {r : Nat → Nat → Nat} (h : okR mn kd r) {p k : Nat} (hk : k < 3) : r p k ≤ 8 := by
  have := (h p).2
  rcases (by omega : k = 0 ∨ k = 1 ∨ k = 2) with rfl | rfl | rfl <;> omega
theorem goL2_c {MM : Mem} {b mn m : Nat} {base : Nat → Nat → Int32} {r : Nat → Nat → Nat} (hb : MM.1 0 41 = nI b) (b1 : b ≤ 1) (h4 : MM.1 4 b = nI mn) (hmn : mn ≤ 5) (hm : m < mn) (hO : OV MM b mn base (nr r)) (h44 : RM44 MM r) :
    ∃ M3, X12_goRound_L2 (nI m) zFU 0 MM = some M3 ∧ Fr (SO mn) MM M3 ∧ OV M3 b mn base (upd3 (nr r) m (fun _ => 0)) := by
  obtain ⟨M1, M2, M3, e1, e2, e3, f1, f2, f3, o3⟩ := lay3 (w := fun k => MM.1 44 (3 * m + k)) (way := -1) (u := fun k => nI (r m k)) (u' := fun _ => 0) hb b1 h4 hmn hm hO (fun _ _ => rfl) (fun k hk => by show nI (r m k) + -1 * MM.1 44 (3 * m + k) = 0; rw [h44 m k (by omega) hk]; exact up_m _) (fun k hk h => by show lk h (nI (r m k)) + -1 * lk h (MM.1 44 (3 * m + k)) = lk h 0; rw [h44 m k (by omega) hk]; exact lkm _ _)
  refine ⟨M3, ?_, f3, o3⟩
  obtain ⟨n, hn⟩ := zFU_s 4 (by omega)
  have st : ∀ (f k : Nat) (M M' : Mem), k < 3 → Fr (SO mn) MM M → X12_lay (nI m) (nI k) (MM.1 44 (3 * m + k)) (-1) M = some M' → X12_goRound_L2 (nI m) (f + 1) (nI k) M = X12_goRound_L2 (nI m) f (nI (k + 1)) M' := fun f k M M' hk hf e => by
    rw [X12_goRound_L2, if_neg (show ¬ (3 : Int32) ≤ nI k from nI_ge (b := 3) hk (by omega)), show (3 : Int32) * nI m + nI k = nI (3 * m + k) by simp only [nlit, nI_mul, nI_add], gd_in (by omega) (by omega), nI_clamp (by omega), hf.2 44 _ (by unfold SO; omega), e, bo_s, show nI k + 1 = nI (k + 1) from nI_add k 1]
  rw [hn, show n + 4 = n + 3 + 1 from rfl, show (0 : Int32) = nI 0 from rfl, st _ 0 _ _ (by omega) Fr.rf e1, show n + 3 = n + 2 + 1 from rfl, st _ 1 _ _ (by omega) f1 e2, show n + 2 = n + 1 + 1 from rfl, st _ 2 _ _ (by omega) f2 e3, X12_goRound_L2, if_pos (by decide)]
theorem goL3_c {MM : Mem} {m : Nat} {r : Nat → Nat → Nat} {w : Nat → Nat} {f : Bool} (hm : m < 5) (h44 : RM44 MM r) (h36 : ∀ k, k < 3 → MM.1 36 k = nI (w k)) (hr : ∀ k, k < 3 → r m k ≤ 8) (hw : ∀ k, k < 3 → w k ≤ 8) :
    ∃ f' M3, X12_goRound_L3 (nI m) zFU (b2i f) 0 MM = some (b2i f', M3) ∧ (f' = true ↔ f = true ∨ ∃ k, k < 3 ∧ r m k ≠ w k) ∧ Fr (fun a _ => a = 44) MM M3 ∧ RM44 M3 (setR r m w) := by
  have st : ∀ (n k : Nat) (g : Bool) (M : Mem), k < 3 → Fr (fun a _ => a = 44) MM M → M.1 44 (3 * m + k) = nI (r m k) → X12_goRound_L3 (nI m) (n + 1) (b2i g) (nI k) M = X12_goRound_L3 (nI m) n (b2i (g || decide (r m k ≠ w k))) (nI (k + 1)) (uI M 44 (3 * m + k) (nI (w k))) := fun n k g M hk hf h4 => by
    have hr' := hr k hk
    have hw' := hw k hk
    rw [X12_goRound_L3, if_neg (show ¬ (3 : Int32) ≤ nI k from nI_ge (b := 3) hk (by omega)), show (3 : Int32) * nI m + nI k = nI (3 * m + k) by simp only [nlit, nI_mul, nI_add], gd_in (by omega) (by omega), gd_in (by omega) (by omega), nI_clamp (show 3 * m + k < 2 ^ 31 by omega), nI_clamp (show k < 2 ^ 31 by omega), h4, hf.2 36 k (by omega), h36 k hk, show nI k + 1 = nI (k + 1) from nI_add k 1]
    cases g with
    | true => rw [if_neg (show ¬ b2i true = 0 by decide), b1_s, if_pos rfl, b1_s, gd_in (by omega) (by omega), gd_in (by omega) (by omega), lt_e, Bool.true_or]; rfl
    | false =>
      rw [if_pos (show b2i false = 0 by decide), Bool.false_or]
      by_cases z : r m k = w k
      · rw [if_pos (by rw [z]), b1_s, if_neg Bool.false_ne_true, b1_s, gd_in (by omega) (by omega), gd_in (by omega) (by omega), lt_e, decide_eq_false (by omega)]; rfl
      · rw [if_neg (by rw [nI_eq (by omega) (by omega)]; exact z), b1_s, if_pos rfl, b1_s, gd_in (by omega) (by omega), gd_in (by omega) (by omega), lt_e, decide_eq_true z]; rfl
  obtain ⟨n, hn⟩ := zFU_s 4 (by omega)
  have f1 : Fr (fun a _ => a = 44) MM (uI MM 44 (3 * m + 0) (nI (w 0))) := Fr.rf.up _ rfl
  have f2 := f1.up (nI (w 1)) (k := 44) (i := 3 * m + 1) rfl
  have f3 := f2.up (nI (w 2)) (k := 44) (i := 3 * m + 2) rfl
  refine ⟨((f || decide (r m 0 ≠ w 0)) || decide (r m 1 ≠ w 1)) || decide (r m 2 ≠ w 2), _, ?_, ?_, f3, fun p k hp hk => ?_⟩
  · rw [hn, show n + 4 = n + 3 + 1 from rfl, show (0 : Int32) = nI 0 from rfl, st _ 0 _ _ (by omega) Fr.rf (h44 m 0 hm (by omega)), show n + 3 = n + 2 + 1 from rfl, st _ 1 _ _ (by omega) f1 (by rw [uI_ne (by omega)]; exact h44 m 1 hm (by omega)), show n + 2 = n + 1 + 1 from rfl, st _ 2 _ _ (by omega) f2 (by rw [uI_ne (by omega), uI_ne (by omega)]; exact h44 m 2 hm (by omega)), X12_goRound_L3, if_pos (by decide)]
  · simp only [Bool.or_eq_true, decide_eq_true_eq]
    constructor
    · rintro (((h | h) | h) | h)
      · exact Or.inl h
      · exact Or.inr ⟨0, by omega, h⟩
      · exact Or.inr ⟨1, by omega, h⟩
      · exact Or.inr ⟨2, by omega, h⟩
    · rintro (h | ⟨k, hk, h⟩)
      · exact Or.inl (Or.inl (Or.inl h))
      · rcases (by omega : k = 0 ∨ k = 1 ∨ k = 2) with rfl | rfl | rfl
        · exact Or.inl (Or.inl (Or.inr h))
        · exact Or.inl (Or.inr h)
        · exact Or.inr h
  · unfold setR
    by_cases z : p = m
    · subst z
      rw [if_pos rfl]
      rcases (by omega : k = 0 ∨ k = 1 ∨ k = 2) with rfl | rfl | rfl
      · rw [uI_ne (by omega), uI_ne (by omega), uI_eq]
      · rw [uI_ne (by omega), uI_eq]
      · rw [uI_eq]
    · rw [if_neg z, uI_ne (by omega), uI_ne (by omega), uI_ne (by omega)]
      exact h44 p k hp hk
/-- scratch of a round -/
def SMR (mn a i : Nat) : Prop := SMs mn a i ∨ a = 44
/-- what both sides see while men come to rest: as told at the start -/
def RST (MX MM : Mem) (b mn kd bn hr : Nat) (base : Nat → Nat → Int32) : Prop := MM.1 0 41 = nI b ∧ b ≤ 1 ∧ RM MX.1 23 MM.1 b mn kd bn hr ∧ ∀ m, m < mn → ∃ (l : Nat → Nat) (hh sp : Nat), SK MX MM 35 m b mn kd bn hr hh sp l base (fun _ _ => 0) ∧ (∀ j, j < 3 → MX.1 36 (3 * m + j) = nI (l j) ∧ MM.1 33 (3 * m + j) = nI (l j)) ∧ MX.1 36 (35 + m) = nI sp
theorem RST.fr {MX MM MX' MM' : Mem} {b mn kd bn hr : Nat} {base : Nat → Nat → Int32} {S T : Nat → Nat → Prop} (h : RST MX MM b mn kd bn hr base) (fX : Fr S MX MX') (fM : Fr T MM MM')
    (kX : ∀ a i, a = 36 ∨ a = 43 ∨ (23 ≤ a ∧ a ≤ 33) → ¬ S a i) (kM : ∀ a i, (3 ≤ a ∧ a ≤ 29) → ¬ T a i) (k41 : ¬ T 0 41) (kM2 : ∀ i, (i < 20 ∨ 35 ≤ i) → ¬ T 33 i) : RST MX' MM' b mn kd bn hr base := by
  obtain ⟨h1, h2, h3, h4⟩ := h
  have hmn := h3.1.1
  refine ⟨(fM.2 0 41 k41).trans h1, h2, h3.fg fX fM (fun a i q1 q2 => kX a i (by omega)) (fun a i q1 q2 => kM a i (by omega)), fun m hm => ?_⟩
  obtain ⟨l, hh, sp, q1, q2, q3⟩ := h4 m hm
  refine ⟨l, hh, sp, q1.fr2 fX fM kX kM k41 kM2, fun j hj => ?_, (fX.2 36 _ (kX _ _ (by omega))).trans q3⟩
  rw [fX.2 36 _ (kX _ _ (by omega)), fM.2 33 _ (kM2 _ (by omega))]
  exact q2 j hj
theorem SK.rx {MX MM : Mem} {o m b mn kd bn hr hh sp : Nat} {l : Nat → Nat} {base rx rx' : Nat → Nat → Int32} (h : SK MX MM o m b mn kd bn hr hh sp l base rx) (h1 : ∀ p k, k < 3 → mn ≤ p ∨ kd ≤ k ∨ p = m → rx' p k = 0) (h2 : ∀ p k, p < 5 → k < 3 → ∃ n, n < 1000 ∧ rx' p k = nI n) : SK MX MM o m b mn kd bn hr hh sp l base rx' := by
  obtain ⟨a1, a2, a3, a4, a5, a6, a7, a8, a9, a10, a11, a12⟩ := h
  exact ⟨a1, a2, a3, a4, a5, a6, a7, a8, h1, h2, a11, a12⟩
theorem man_1 {MX MM : Mem} {b mn kd bn hr m : Nat} {base : Nat → Nat → Int32} {r : Nat → Nat → Nat} {f : Bool} (hR : RST MX MM b mn kd bn hr base) (hm : m < mn) (hr0 : okR mn kd r) (h46 : RX46 MX r) (h44 : RM44 MM r) (hO : OV MM b mn base (nr r)) :
    ∃ v MX' Ma Mb Mc Md f', ∃ w : Nat → Nat, X5_seek 35 (nI m) 0 0 MX = some (v, MX') ∧ X12_goRound_L2 (nI m) zFU 0 MM = some Ma ∧ X12_layBest (nI m) 0 Ma = some Mb ∧ X12_goRound_L3 (nI m) zFU (b2i f) 0 Mb = some (b2i f', Mc) ∧ X12_layBestRow (nI m) 1 Mc = some Md ∧
      Fr (SXs m) MX MX' ∧ Fr (SMR mn) MM Md ∧ RX46 MX' (setR r m w) ∧ RM44 Md (setR r m w) ∧ OV Md b mn base (nr (setR r m w)) ∧ okR mn kd (setR r m w) ∧ (f' = true ↔ f = true ∨ ∃ k, k < 3 ∧ r m k ≠ w k) := by
  obtain ⟨hb, b1, hM, h4⟩ := id hR
  have hmn := hM.1.1
  obtain ⟨Ma, e1, f1, o1⟩ := goL2_c hb b1 hM.2.1.2.1 hmn hm hO h44
  obtain ⟨l, hh, sp, hK, hlp, hspx⟩ := h4 m hm
  have hrx : ∀ p k, k < 3 → mn ≤ p ∨ kd ≤ k ∨ p = m → upd3 (nr r) m (fun _ => 0) p k = 0 := fun p k hk q => by
    unfold upd3 nr
    by_cases z : p = m
    · rw [if_pos ⟨z, hk⟩]
    · rw [if_neg (by omega), (hr0 p).1 k hk (by omega)]; rfl
  have hrn : ∀ p k, p < 5 → k < 3 → ∃ n, n < 1000 ∧ upd3 (nr r) m (fun _ => 0) p k = nI n := fun p k hp hk => by
    unfold upd3 nr
    by_cases z : p = m
    · exact ⟨0, by omega, if_pos ⟨z, hk⟩⟩
    · exact ⟨r p k, by have := okR_b hr0 (p := p) hk; omega, if_neg (by omega)⟩
  have hKa := (hK.rx hrx hrn).frs (MX' := MX) (Fr.rf) (f1.wk (fun a i q => Or.inr q))
  obtain ⟨v, MX', Mb, w, q1, q2, q3, q4, q5, q6, q7, q8, q9, q10, q11, q12⟩ := seek_c (aim := 0) hKa (Or.inl rfl) (fun j hj => ⟨(hlp j hj).1, (f1.2 33 _ (by unfold SO; omega)).trans (hlp j hj).2⟩) hspx (fun p k hp hk hpm => by unfold upd3 nr; rw [if_neg (by omega)]; exact h46 p k hp hk) o1
  have hw8 : ∀ k, k < 3 → w k ≤ 8 := three (by omega) (by omega) (by omega)
  have h44b : RM44 Mb r := fun p k hp hk => by rw [q4.2 44 _ (by unfold SMs SMl SMg SBm S35 SO; omega), f1.2 44 _ (by unfold SO; omega)]; exact h44 p k hp hk
  obtain ⟨f', Mc, e3, e4, f3, h44c⟩ := goL3_c (f := f) (m := m) (by omega) h44b q8 (fun k hk => okR_b hr0 hk) hw8
  have oc := q5.fr f3 (fun i => by omega) (fun i => by omega)
  have kk : ∀ a i, (3 ≤ a ∧ a ≤ 29) ∨ (a = 0 ∧ i = 41) → Mc.1 a i = MM.1 a i := fun a i h => by
    rw [f3.2 a i (by omega), q4.2 a i (by unfold SMs SMl SMg SBm S35 SO; omega), f1.2 a i (by unfold SO; omega)]
  have h36c : ∀ k, k < 3 → Mc.1 36 k = nI (w k) := fun k hk => (f3.2 36 k (by omega)).trans (q8 k hk)
  obtain ⟨Md, e5, f5, o5⟩ := layBestRow_c (way := 1) (u := fun _ => 0) (u' := fun k => nI (w k)) ((kk 0 41 (by omega)).trans hb) b1 ((kk 4 b (by omega)).trans hM.2.1.2.1) hmn hm oc (fun k hk => by unfold upd3; rw [if_pos ⟨rfl, hk⟩]) (fun k hk => by rw [h36c k hk]; exact up_1 _) (fun k hk h => by rw [h36c k hk]; exact lkp _ _)
  refine ⟨v, MX', Ma, Mb, Mc, Md, f', w, q1, e1, q2, e3, e5, q3, ?_, fun p k hp hk => ?_, fun p k hp hk => ?_, o5.cg (fun _ _ _ _ => rfl) (fun p j hj => ?_), fun p => ?_, e4⟩
  · exact (((f1.wk (fun a i z => Or.inl (Or.inl (Or.inr (Or.inr (Or.inr z)))))).tr (q4.wk (fun a i z => Or.inl z))).tr (f3.wk (fun a i z => Or.inr z))).tr (f5.wk (fun a i z => Or.inl (Or.inl (Or.inr (Or.inr (Or.inr z))))))
  · rw [q7 p k hp hk]
    unfold setR upd3 nr
    by_cases z : p = m
    · rw [if_pos z, if_pos z]
    · rw [if_neg z, if_neg z, if_neg (by omega)]
  · rw [f5.2 44 _ (by unfold SO; omega)]
    exact h44c p k hp hk
  · show upd3 (upd3 (nr r) m fun _ => 0) m (fun k => nI (w k)) p j = nI (if p = m then w j else r p j)
    unfold upd3 nr
    by_cases z : p = m
    · rw [if_pos ⟨z, hj⟩, if_pos z]
    · rw [if_neg (by omega), if_neg (by omega), if_neg z]
  · unfold setR
    by_cases z : p = m
    · refine ⟨fun k hk q => ?_, ?_⟩
      · rw [if_pos z]
        have := q12 k hk
        have := (hKa.2.2.2.2.2.1 k hk).2 (by omega)
        omega
      · rw [if_pos z, if_pos z, if_pos z]; exact q11
    · refine ⟨fun k hk q => ?_, ?_⟩
      · rw [if_neg z]; exact (hr0 p).1 k hk q
      · rw [if_neg z, if_neg z, if_neg z]; exact (hr0 p).2
def SXR (a i : Nat) : Prop := SX a i ∧ a ≠ 43 ∧ a ≠ 48
theorem men_c {MX MM : Mem} {b mn kd bn hr : Nat} {base : Nat → Nat → Int32} {r0 : Nat → Nat → Nat} (hR : RST MX MM b mn kd bn hr base) (hr0 : okR mn kd r0) (h46 : RX46 MX r0) (h44 : RM44 MM r0) (hO : OV MM b mn base (nr r0)) :
    ∃ MX' MM' f, ∃ r : Nat → Nat → Nat, X5_roundsToRest_L2 zFU 0 MX = some MX' ∧ X12_goRound_L1 zFU 0 0 MM = some (b2i f, MM') ∧ Fr SXR MX MX' ∧ Fr (SMR mn) MM MM' ∧ okR mn kd r ∧ RX46 MX' r ∧ RM44 MM' r ∧ OV MM' b mn base (nr r) ∧ (f = true ↔ ∃ p k, p < 5 ∧ k < 3 ∧ r p k ≠ r0 p k) := by
  have hmn := hR.2.2.1.1.1
  have key := two_zFU (σ := Int32 × Mem) (σ' := Int32 × Int32 × Mem) (fun n s => X5_roundsToRest_L2 n s.1 s.2) (fun n s => X12_goRound_L1 n s.1 s.2.1 s.2.2)
    (fun d s s' => ∃ i M1 M2 f, ∃ r : Nat → Nat → Nat, i + d = mn ∧ s = (nI i, M1) ∧ s' = (b2i f, nI i, M2) ∧ Fr SXR MX M1 ∧ Fr (SMR mn) MM M2 ∧ okR mn kd r ∧ RX46 M1 r ∧ RM44 M2 r ∧ OV M2 b mn base (nr r) ∧ (f = true ↔ ∃ p k, p < i ∧ k < 3 ∧ r p k ≠ r0 p k) ∧ ∀ p k, i ≤ p → r p k = r0 p k)
    (fun t t' => ∃ f, ∃ r : Nat → Nat → Nat, t'.1 = b2i f ∧ Fr SXR MX t ∧ Fr (SMR mn) MM t'.2 ∧ okR mn kd r ∧ RX46 t r ∧ RM44 t'.2 r ∧ OV t'.2 b mn base (nr r) ∧ (f = true ↔ ∃ p k, p < 5 ∧ k < 3 ∧ r p k ≠ r0 p k)) ?_ mn (0, MX) (0, 0, MM) (by omega) ⟨0, MX, MM, false, r0, by omega, rfl, rfl, Fr.rf, Fr.rf, hr0, h46, h44, hO, ⟨fun h => absurd h (by decide), fun ⟨p, k, h, _⟩ => absurd h (by omega)⟩, fun _ _ _ => rfl⟩
  · obtain ⟨t, ⟨c, t'⟩, e1, e2, f, r, q1, q2⟩ := key
    have q1 : c = b2i f := q1
    subst q1
    exact ⟨t, t', f, r, e1, e2, q2⟩
  · rintro n n' d s s' ⟨i, M1, M2, f, r, hd, rfl, rfl, f1, f2, hr1, k46, k44, kO, hf, hsame⟩
    have hR1 := hR.fr f1 f2 (fun a i q => by unfold SXR SX; omega) (fun a i q => by unfold SMR SMs SMl SMg SBm S35 SO; omega) (by unfold SMR SMs SMl SMg SBm S35 SO; omega) (fun i q => by unfold SMR SMs SMl SMg SBm S35 SO; omega)
    obtain ⟨hb, b1, hM, _⟩ := id hR1
    by_cases hi : i = mn
    · left
      subst hi
      refine ⟨M1, (b2i f, M2), ?_, ?_, f, r, rfl, f1, f2, hr1, k46, k44, kO, ?_⟩
      · show X5_roundsToRest_L2 (n + 1) (nI i) M1 = _
        rw [X5_roundsToRest_L2, hM.2.1.1, if_pos (nI_le (by omega) (by omega))]
      · show X12_goRound_L1 (n' + 1) (b2i f) (nI i) M2 = _
        rw [X12_goRound_L1, many_c hb b1 hM.2.1.2.1, bo_s, if_pos (nI_le (by omega) (by omega))]
      · rw [hf]
        constructor
        · rintro ⟨p, k, h1, h2, h3⟩; exact ⟨p, k, by omega, h2, h3⟩
        · rintro ⟨p, k, h1, h2, h3⟩
          by_cases z : p < i
          · exact ⟨p, k, z, h2, h3⟩
          · exact absurd (hsame p k (by omega)) h3
    · right
      obtain ⟨v, N1, Ma, Mb, Mc, Md, f', w, e1, e2, e3, e4, e5, g1, g2, j46, j44, jO, jr, jf⟩ := man_1 (m := i) (f := f) hR1 (by omega) hr1 k46 k44 kO
      refine ⟨d - 1, (nI (i + 1), N1), (b2i f', nI (i + 1), Md), by omega, ⟨i + 1, N1, Md, f', setR r i w, by omega, rfl, rfl, f1.tr (g1.wk (fun a j z => ⟨SXs_X z, by unfold SXs SXl SXg SBx S46 at z; omega, by unfold SXs SXl SXg SBx S46 at z; omega⟩)), f2.tr g2, jr, j46, j44, jO, ?_, fun p k hp => ?_⟩, ?_, ?_⟩
      · rw [jf, hf]
        unfold setR
        constructor
        · rintro (⟨p, k, h1, h2, h3⟩ | ⟨k, h2, h3⟩)
          · exact ⟨p, k, by omega, h2, by rw [if_neg (by omega)]; exact h3⟩
          · exact ⟨i, k, by omega, h2, by rw [if_pos rfl]; rw [hsame i k (Nat.le_refl i)] at h3; exact fun z => h3 z.symm⟩
        · rintro ⟨p, k, h1, h2, h3⟩
          by_cases z : p = i
          · rw [if_pos z] at h3
            exact Or.inr ⟨k, h2, by rw [hsame i k (Nat.le_refl i)]; rw [z] at h3; exact fun y => h3 y.symm⟩
          · rw [if_neg z] at h3
            exact Or.inl ⟨p, k, by omega, h2, h3⟩
      · unfold setR
        rw [if_neg (by omega)]
        exact hsame p k (by omega)
      · show X5_roundsToRest_L2 (n + 1) (nI i) M1 = X5_roundsToRest_L2 n (nI (i + 1)) N1
        rw [X5_roundsToRest_L2, hM.2.1.1, if_neg (nI_ge (by omega) (by omega)), e1, bp_s, show nI i + 1 = nI (i + 1) from nI_add i 1]
      · show X12_goRound_L1 (n' + 1) (b2i f) (nI i) M2 = X12_goRound_L1 n' (b2i f') (nI (i + 1)) Md
        rw [X12_goRound_L1, many_c hb b1 hM.2.1.2.1, bo_s, if_neg (nI_ge (by omega) (by omega)), e2, b1_s, e3, bo_s, e4, b2_s, e5, bo_s, show nI i + 1 = nI (i + 1) from nI_add i 1]
theorem asAhead_t {M : Mem} (h : ∀ i, i < 15 → M.1 46 i = M.1 48 i) : X5_isAsAhead M = some true := by
  have hz1 : zlen zTX 46 = 15 := zlX_46
  have hz2 : zlen zTX 48 = 15 := zlX_48
  obtain ⟨t, e, q⟩ := up_zFU (σ := Int32) (fun n s => X5_isAsAhead_L1 M n s) (fun i s => s = nI i) (fun t => t = true) 15 (by omega) (by
    rintro n s rfl
    exact ⟨true, by rw [X5_isAsAhead_L1, if_pos (by decide)], rfl⟩) (by
    rintro n i s hi rfl
    left
    exact ⟨nI (i + 1), rfl, by rw [X5_isAsAhead_L1, if_neg (show ¬ (15 : Int32) ≤ nI i from nI_ge (b := 15) hi (by omega)), xc_in (by omega), xc_in (by omega), if_pos (h i hi), show nI i + 1 = nI (i + 1) from nI_add i 1]⟩) 0 0 (by omega) rfl
  unfold X5_isAsAhead
  rw [e, q]
theorem asAhead_f {M : Mem} {j : Nat} (hj : j < 15) (h : ¬ M.1 46 j = M.1 48 j) : X5_isAsAhead M = some false := by
  have hz1 : zlen zTX 46 = 15 := zlX_46
  have hz2 : zlen zTX 48 = 15 := zlX_48
  obtain ⟨t, e, q⟩ := up_zFU (σ := Int32) (fun n s => X5_isAsAhead_L1 M n s) (fun i s => s = nI i ∧ i ≤ j) (fun t => t = false) 15 (by omega) (by
    rintro n s ⟨rfl, h⟩
    omega) (by
    rintro n i s hi ⟨rfl, hij⟩
    have e : X5_isAsAhead_L1 M (n + 1) (nI i) = if M.1 46 i = M.1 48 i then X5_isAsAhead_L1 M n (nI (i + 1)) else some false := by
      rw [X5_isAsAhead_L1, if_neg (show ¬ (15 : Int32) ≤ nI i from nI_ge (b := 15) hi (by omega)), xc_in (by omega), xc_in (by omega), show nI i + 1 = nI (i + 1) from nI_add i 1]
    by_cases z : M.1 46 i = M.1 48 i
    · left
      refine ⟨nI (i + 1), ⟨rfl, ?_⟩, by rw [e, if_pos z]⟩
      by_cases y : i = j
      · rw [y] at z; exact absurd z h
      · omega
    · right
      exact ⟨false, by rw [e, if_neg z], rfl⟩) 0 0 (by omega) ⟨rfl, by omega⟩
  unfold X5_isAsAhead
  rw [e, q]
