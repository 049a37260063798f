theorem lkS_9 : Cond.methodLink R_law 9 yX11_init ∈ zTB := zTB_i1 22 (by decide +kernel)
theorem lkS_12 : Cond.methodLink R_law 12 yX12_init ∈ zTB := zTB_i6 92 (by decide +kernel)
theorem lkC_7 : Cond.classLink R_law 7 RX11 ∈ zTB := zTB_i1 20 (by decide +kernel)
theorem lkC_10 : Cond.classLink R_law 10 RX12 ∈ zTB := zTB_i6 90 (by decide +kernel)
def fsM : List Value := [.null, .null, .int 0, .int 0, .int 0, .int 0, .int 0, .int 0, .int 0, .int 0, .long 0, .null, .null, .null, .null, .null, .null, .null, .null, .null, .null, .null, .null, .null, .null, .null, .null, .null, .null, .null, .null, .null, .null, .null, .null, .null, .null, .null, .null, .null, .null, .int 0, .int 0, .int 0, .int 0, .int 0, .int 0, .int 0, .null, .null, .int 0, .int 0, .null, .null, .null, .int 0, .int 0, .int 0, .null, .null, .null, .null, .int 0, .int 0, .null, .null, .null, .int 0, .int 0, .int 0, .null, .null, .null, .null, .null, .null, .null, .null, .int 0, .int 0, .int 0, .null, .null]
/-- a constructor's call in the law -/
theorem st_call {SF : State → Prop} {p : Program} {l : Launch} {e : Env} {s : State} {m : MethodId} {below : List Frame} {meth : Method} {c : Code} {b L : Nat} {xs : Nat → Int32} {D : va_G} {aC : Nat → ClassId} {H : Heap} {locs : List Loc} {ls : Array Slot} {cells slots pc : Nat} {y : MethodName} {bytes : ByteArray} {idx mc' ms' a : Nat} {R' : Room} {rest : List Value} {ei : va_E} {post' : va_W → Prop} {Q : State → Prop}
    (C0 : lw_At p s m meth c b L xs) (hKK : kK D aC s) (hSF : ∀ U : State, U.heap = H → s.WarmedH U.vm → SF U) (hSC : ∀ (U : State) (g : JFrame) (mk : MethodId) (v : Array Value), SF U → SF (U.calling g mk v)) (hM : kMet SF l D aC y bytes 1 R' [.ref a] [(a, ei)] post' mc' ms') (hd : decode code pc = .ok (.invokespecial idx, 3)) (h1 : Cond.code y bytes 1 none ∈ zTB) (h2 : Cond.initialized y.cls ∈ zTB) (h3 : Cond.methodLink R_law idx y ∈ zTB) (h4 : Cond.instanceMethod y ∈ zTB) (hy : y.name = "<init>")
    (hdd : y.cls ≠ "java/lang/invoke/MethodHandle" ∧ y.cls ≠ "java/lang/invoke/VarHandle" ∧ (parseMethodDescriptor y.desc).map (fun d => d.parameters.length) = some 0) (hrc : R'.cells = mc') (hrs : R'.slots = ms') (hRR : R'.frames + 1 ≤ room_1.frames ∧ 8 + (1 + 11) + R'.locals ≤ room_1.locals) (hW : (rest.map fun v => v.category).sum ≤ 8) (hcs : cells + mc' ≤ room_1.cells ∧ slots + ms' ≤ room_1.slots)
    (hls : ls.size = 4) (hP : va_P D vwCl [(a, ei)] H) (ha : s.heap.size ≤ a) (hS : va_S (fun q : Nat => s.heap.size ≤ q) s.heap H locs)
    (kk : ∀ (wl : va_W) (H1 : Heap) (locs1 : List Loc), post' wl → va_P D vwCl wl H1 → va_D (va_A [(a, ei)] H.size) wl → (∀ q : Nat, q < H.size → q ≠ a → H1[q]? = H[q]?) → va_S (fun q : Nat => s.heap.size ≤ q) s.heap H1 locs1 → W p l e room_1 s m #[Value.ref b] below meth c H1 locs1 (cells + mc') (slots + ms') Q (F0 m (pc + 3) ls rest)) : W p l e room_1 s m #[Value.ref b] below meth c H locs cells slots Q (F0 m pc ls (.ref a :: rest)) := by
  obtain ⟨hx, hb, hr, hml, hown, hts, hX, hbl, hlocks, hgv⟩ := id C0
  have htz : ∀ w ∈ zTB, w.before #[Value.ref b] s = true := fun w h => hts w (zTB_lw w h)
  have hDc : va_D (fun _ => True) [(a, ei)] := ⟨fun x y q r hx hy _ => by
    have h1 : x < 1 := (List.getElem?_eq_some_iff.mp hx).1
    have h2 : y < 1 := (List.getElem?_eq_some_iff.mp hy).1
    omega, fun _ _ _ => trivial⟩
  have hpre : PreS s H (va_Pc [.ref a] (fun U => U.heap.size = H.size ∧ va_P D vwCl [(a, ei)] U.heap ∧ kK D aC U ∧ va_D (fun _ => True) [(a, ei)] ∧ SF U)) [.ref a] := by
    refine ⟨fun v U g mk q => ?_, fun U hU hW => ⟨rfl, by rw [hU], by rw [hU]; exact hP, ⟨va_K.moved hW.alike hKK.1, fun q hq => va_Nw.warmM hW (hKK.2 q hq)⟩, hDc, hSF U hU hW⟩⟩
    obtain ⟨q0, q1, qP, qK, qD, qS⟩ := q
    exact ⟨q0, q1, qP, ⟨va_K.moved (u := U) (U := U.calling g mk v) (Vm.Alike.refl U.vm) qK.1, fun q hq => va_Nw.same rfl rfl (qK.2 q hq)⟩, qD, hSC U g mk v qS⟩
  have hrun := va_runI (e := e) (below := below) (meth := meth) (locs := locs) (H := H) (cells := cells) (slots := slots) (R := room_1) (As := []) (rest := rest) (b := a) (g := F0 m pc ls (.ref a :: rest)) ⟨hx, hb, hml, hown, htz⟩ (hM H.size) (cwI 0 htz (zTB_goodIn h1) rfl hrc hrs (htz _ h2) (htz _ h3) (htz _ h4) hy hdd hRR) hpre rfl rfl hls rfl (lv_room hW) hd hcs
  have hF : ∀ q, va_A [(a, ei)] H.size q → s.heap.size ≤ q := by
    rintro q (⟨k, e', h⟩ | h)
    · match k, h with
      | 0, h => cases h; exact ha
      | k + 1, h => simp at h
    · exact Nat.le_trans hS.1 h
  refine va_callv hrun hS (fun q _ h => hF q h) hF (fun u t H1 locs1 ht hvm hw hB hz1 hk1 hS1 => ?_)
  obtain ⟨wl, h1, h2, h3⟩ := hB
  rw [ht] at h2
  refine kk wl H1 locs1 h1 h2 h3 (fun q hq hqa => hk1 q hq ?_) hS1
  rintro (⟨k, e', h⟩ | h)
  · match k, h with
    | 0, h => cases h; exact hqa rfl
    | k + 1, h => simp at h
  · omega
set_option maxHeartbeats 4000000 in
set_option maxRecDepth 100000 in
theorem law_start {p : Program} {l : Launch} {e : Env} {s : State} {m : MethodId} {below : List Frame} {meth : Method} {c : Code} {b L : Nat} {xs : Nat → Int32} (hL : L ≤ 3072) (C0 : lw_At p s m meth c b L xs) {M1 M2 : Mem} (e1 : X12_clearBank zM0 = some M1) (e2 : X12_startAnew M1 = some M2) (R : Mem → Mem → Prop) (hR0 : R zX0 M2)
    (h0 : ∀ a1 a2 a3 a4 a5 : Int32, zStep R (fun M => (dO dIM) (X11_feed a1 a2 a3 a4 a5 M)) (fun M => (dO dIM) (X12_feed a1 a2 a3 a4 a5 M))) (h1 : ∀ a1 : Int32, zStep R (fun M => dIM (X11_end a1 M)) (fun M => dIM (X12_end a1 M))) (h2 : zStep R (fun M => (dO dIM) (X11_mill M)) (fun M => (dO dIM) (X12_mill M))) (h3 : ∀ a1 : Int32, zStep R (fun M => (dI M) (X11_fault a1 M)) (fun M => (dI M) (X12_fault a1 M))) (h4 : ∀ a1 a2 : Int32, zStep R (fun M => (dO dIM) (X11_man a1 a2 M)) (fun M => (dO dIM) (X12_man a1 a2 M))) (h5 : ∀ a1 a2 : Int32, zStep R (fun M => (dI M) (X11_purse a1 a2 M)) (fun M => (dO (dI M)) (X12_purse a1 a2 M))) (h6 : ∀ a1 a2 : Int32, zStep R (fun M => (dI M) (X11_over a1 a2 M)) (fun M => (dO (dI M)) (X12_over a1 a2 M))) (h7 : ∀ a1 a2 : Int32, zStep R (fun M => (dI M) (X11_pay a1 a2 M)) (fun M => (dO (dI M)) (X12_pay a1 a2 M))) (h8 : ∀ a1 a2 : Int32, zStep R (fun M => (dO (dI M)) (X11_all a1 a2 M)) (fun M => (dO (dI M)) (X12_all a1 a2 M))) (h9 : ∀ a1 : Int32, zStep R (fun M => (dI M) (X11_left a1 M)) (fun M => (dO (dI M)) (X12_left a1 M))) (h10 : ∀ a1 a2 a3 : Int32, zStep R (fun M => (dO dIM) (X11_spend a1 a2 a3 M)) (fun M => (dO dIM) (X12_spend a1 a2 a3 M))) (h11 : ∀ a1 a2 a3 a4 : Int32, zStep R (fun M => (dO dIM) (X11_give a1 a2 a3 a4 M)) (fun M => (dO dIM) (X12_give a1 a2 a3 a4 M))) (h12 : ∀ a1 a2 a3 : Int32, zStep R (fun M => (dO dIM) (X11_change a1 a2 a3 M)) (fun M => (dO dIM) (X12_change a1 a2 a3 M))) (h13 : zStep R (fun M => (dO dIM) (X11_week M)) (fun M => (dO dIM) (X12_week M))) (h14 : zStep R (fun M => (dO dZM) (X11_undo M)) (fun M => (dO dZM) (X12_undo M))) (h15 : zStep R (fun M => (dO dZM) (X11_redo M)) (fun M => (dO dZM) (X12_redo M))) (h16 : ∀ a1 a2 : Int32, zStep R (fun M => (dO dIM) (X11_best a1 a2 M)) (fun M => (dO dIM) (X12_best a1 a2 M))) (h17 : ∀ a1 : Int32, zStep R (fun M => (dO dIM) (X11_leaks a1 M)) (fun M => (dO dIM) (X12_leaks a1 M))) (h18 : ∀ a1 a2 : Int32, zStep R (fun M => (dO dIM) (X11_good a1 a2 M)) (fun M => (dO dIM) (X12_good a1 a2 M))) (h19 : ∀ a1 a2 : Int32, zStep R (fun M => (dO dIM) (X11_needs a1 a2 M)) (fun M => (dO dIM) (X12_needs a1 a2 M))) (h20 : ∀ a1 a2 : Int32, zStep R (fun M => (dO dIM) (X11_pool a1 a2 M)) (fun M => (dO dIM) (X12_pool a1 a2 M))) (h21 : ∀ a1 a2 : Int32, zStep R (fun M => (dO dIM) (X11_joint a1 a2 M)) (fun M => (dO dIM) (X12_joint a1 a2 M))) (h22 : zStep R (fun M => (dO dIM) (X11_rest M)) (fun M => (dO dIM) (X12_rest M))) (h23 : ∀ a1 a2 : Int32, zStep R (fun M => (dO dIM) (X11_will a1 a2 M)) (fun M => (dO dIM) (X12_will a1 a2 M))) (h24 : ∀ a1 a2 : Int32, zStep R (fun M => (dO dIM) (X11_thrive a1 a2 M)) (fun M => (dO dIM) (X12_thrive a1 a2 M))) (h25 : ∀ a1 a2 a3 : Int32, zStep R (fun M => (dO (dI M)) (X11_saves a1 a2 a3 M)) (fun M => (dO (dI M)) (X12_saves a1 a2 a3 M))) (h26 : zStep R (fun M => (dO (dI M)) (X11_richest M)) (fun M => (dO (dI M)) (X12_richest M))) (h27 : zStep R (fun M => (dO (dI M)) (X11_gulf M)) (fun M => (dO (dI M)) (X12_gulf M))) (h28 : ∀ a1 : Int32, zStep R (fun M => (dO (dI M)) (X11_most a1 M)) (fun M => (dO (dI M)) (X12_most a1 M))) (h29 : ∀ a1 : Int32, zStep R (fun M => (dO (dI M)) (X11_gain a1 M)) (fun M => (dO dIM) (X12_gain a1 M))) (h30 : ∀ a1 : Int32, zStep R (fun M => (dI M) (X11_lies a1 M)) (fun M => (dO (dI M)) (X12_lies a1 M))) (h31 : ∀ a1 a2 a3 : Int32, zStep R (fun M => dIM (X11_least a1 a2 a3 M)) (fun M => (dO dIM) (X12_least a1 a2 a3 M))) (h32 : ∀ a1 a2 a3 : Int32, zStep R (fun M => dIM (X11_more a1 a2 a3 M)) (fun M => (dO dIM) (X12_more a1 a2 a3 M))) (h33 : ∀ a1 : Int32, zStep R (fun M => dZM (X11_untell a1 M)) (fun M => (dO dZM) (X12_untell a1 M))) (h34 : ∀ a1 : Int32, zStep R (fun M => dIM (X11_later a1 M)) (fun M => dIM (X12_later a1 M))) (h35 : ∀ a1 : Int32, zStep R (fun M => (dO dIM) (X11_orders a1 M)) (fun M => (dO dIM) (X12_orders a1 M))) (h36 : ∀ a1 a2 : Int32, zStep R (fun M => (dO dIM) (X11_sure a1 a2 M)) (fun M => (dO dIM) (X12_sure a1 a2 M))) (h37 : ∀ a1 a2 : Int32, zStep R (fun M => (dO dIM) (X11_ask a1 a2 M)) (fun M => (dO dIM) (X12_ask a1 a2 M))) (h38 : ∀ a1 : Int32, zStep R (fun M => (dO dIM) (X11_image a1 M)) (fun M => (dO dIM) (X12_image a1 M))) (h39 : ∀ a1 : Int32, zStep R (fun M => (dO dIM) (X11_back a1 M)) (fun M => (dO dIM) (X12_back a1 M))) (h40 : ∀ a1 : Int32, zStep R (fun M => (dI M) (X11_about a1 M)) (fun M => (dO (dI M)) (X12_about a1 M))) : W p l e room_1 s m #[Value.ref b] below meth c s.heap [] 0 0 (lw_Z below #[Value.ref b] s) (entryFrame m ([Value.ref b] : List Value).toArray 4) := by
  obtain ⟨hx, hb, hr, hml, hown, hts, hX, hbl, hlocks, hgv⟩ := id C0
  have htz : ∀ w ∈ zTB, w.before #[Value.ref b] s = true := fun w h => hts w (zTB_lw w h)
  have hA : ∀ q : Nat, s.heap.size ≤ q → (fun q : Nat => s.heap.size ≤ q) q := fun _ h => h
  obtain ⟨D, aC, hK⟩ := st_K hts
  obtain ⟨ad0, hst0⟩ := st_S hts hgv
  have hKK : kK D aC s := ⟨hK, hst0.2.2.2⟩
  have hS : va_S (fun q : Nat => s.heap.size ≤ q) s.heap s.heap [] := va_S.rf
  have hP : va_P D vwCl [] s.heap := fun k q h => by simp at h
  have hD : va_D (fun q : Nat => s.heap.size ≤ q) [] := ⟨fun i j p q h => by simp at h, fun k q h => by simp at h⟩
  have hl := lv_entry ([.ref b]) (n := 4) (Nat.le_of_ble_eq_true rfl)
  rw [lg_entry_eq]
  generalize (lg_sl ([.ref b]) ++ List.replicate (4 - (lg_sl ([.ref b])).length) Slot.unset).toArray = ls at hl ⊢
  have hl := zlv_args hl
  have hl : zlv ls 4 [some (.ref b), none, none, none] := ⟨hl.1, hl.2.1, fun i v hi => hl.2.2 i v (by match i, hi with | 0, hi => exact hi | 1, hi => cases hi | 2, hi => cases hi | 3, hi => cases hi | i + 4, hi => simp at hi)⟩
  refine va_new hx hb htz kX11.2.1 tyX11 kX11.2.2.2 hown (htz _ lkC_7) (htz _ tk_X110) (htz _ tk_X112) hK hP hD hS hA kX11.1 (fs := [.null, .null, .null, .null, .null, .null, .null, .null, .null, .null]) (by decide) (Nat.le_of_ble_eq_true rfl) (Nat.le_of_ble_eq_true rfl) dL_law_0 (fun qX H hP hD hS => ?_)
  have hP : va_P D vwCl [(qX, .inr (11, [.null, .null, .null, .null, .null, .null, .null, .null, .null, .null]))] H := hP
  have hD : va_D (fun q : Nat => s.heap.size ≤ q) [(qX, .inr (11, [.null, .null, .null, .null, .null, .null, .null, .null, .null, .null]))] := hD
  refine lv_dup hx hb dL_law_3 rfl ?_
  refine st_call C0 hKK (fun _ _ _ => trivial) (fun _ _ _ _ _ => trivial) (kc_X11 l D aC qX) dL_law_4 tk_X111 tk_X112 lkS_9 tk_X113 rfl (by decide) rfl rfl ⟨Nat.le_of_ble_eq_true rfl, Nat.le_of_ble_eq_true rfl⟩ (Nat.le_of_ble_eq_true rfl) ⟨Nat.le_of_ble_eq_true rfl, Nat.le_of_ble_eq_true rfl⟩ hl.1 hP (hD.2 0 _ rfl) hS (fun wl H1 locs1 hw hP1 hD1 hkeep hS1 => ?_)
  obtain ⟨adX, aX0, aXs, hwX⟩ := st_X l D aC qX ad0 hw
  rw [hwX] at hP1 hD1
  clear hwX
  have hDX : va_D (fun q : Nat => s.heap.size ≤ q) (zWs (l, D, aC, adX) zTX zX0) := hD1.weaken (fun k q _ h => by
    rcases h with ⟨k, e', h⟩ | h
    · match k, h with
      | 0, h => exact hD.2 0 (_, e') h
      | k + 1, h => simp at h
    · exact Nat.le_trans hS.1 h)
  clear hw hkeep
  have q1 := zlv_st1 hl (i := 1) (by decide) (v := .ref qX) rfl rfl [some (.ref b), some (.ref qX), none, none] rfl
  refine lv_astore_n hx hb dL_law_7 rfl (zlv_has.mp hl) (by decide) q1.1 (fun ls1 hh1 => ?_)
  have hl1 := q1.2 ls1 hh1
  refine va_new hx hb htz kX12.2.1 tyX12 kX12.2.2.2 hown (htz _ lkC_10) (htz _ tk_X120) (htz _ tk_X122) hK hP1 hDX hS1 hA kX12.1 (fs := fsM) (by decide) (Nat.le_of_ble_eq_true rfl) (Nat.le_of_ble_eq_true rfl) dL_law_8 (fun qM H2 hP2 hD2 hS2 => ?_)
  refine lv_dup hx hb dL_law_11 rfl ?_
  have hkM : (zWs (l, D, aC, adX) zTX zX0 ++ [(qM, .inr (12, fsM))])[(zWs (l, D, aC, adX) zTX zX0).length]? = some (qM, .inr (12, fsM)) := by simp
  have haM : s.heap.size ≤ qM := hD2.2 _ _ hkM
  have hPM : va_P D vwCl [(qM, .inr (12, fsM))] H2 := fun k q hq => by
    match k, hq with
    | 0, hq => cases hq; exact hP2 _ _ hkM
    | k + 1, hq => simp at hq
  have hXin : ∀ (k : Nat) (q : Nat × va_E), (zWs (l, D, aC, adX) zTX zX0)[k]? = some q → (zWs (l, D, aC, adX) zTX zX0 ++ [(qM, .inr (12, fsM))])[k]? = some q := fun k q hq => by
    rw [List.getElem?_append_left (List.getElem?_eq_some_iff.mp hq).1]; exact hq
  have hPX : va_P D vwCl (zWs (l, D, aC, adX) zTX zX0) H2 := fun k q hq => hP2 k q (hXin k q hq)
  have hneq : ∀ (k : Nat) (q : Nat × va_E), (zWs (l, D, aC, adX) zTX zX0)[k]? = some q → q.1 ≠ qM := fun k q hq h => by
    have h1 := hD2.1 k _ q _ (hXin k q hq) hkM h
    have h2 := (List.getElem?_eq_some_iff.mp hq).1
    omega
  refine st_call C0 hKK (SF := fun s => zStA ad0 (va_A [(qM, .inr (12, fsM))] s.heap.size) s s.heap) (fun U hU hW => ?_) (fun U g mk v h => zStA_same rfl h) (kc_X12 l D aC qM ad0 e1 e2) dL_law_12 tk_X121 tk_X122 lkS_12 tk_X123 rfl (by decide) rfl rfl ⟨Nat.le_of_ble_eq_true rfl, Nat.le_of_ble_eq_true rfl⟩ (Nat.le_of_ble_eq_true rfl) ⟨Nat.le_of_ble_eq_true rfl, Nat.le_of_ble_eq_true rfl⟩ hl1.1 hPM haM hS2 (fun wl H3 locs3 hw hP3 hD3 hkeep hS3 => ?_)
  · refine zStA_narrow ?_ (zStA_go (H1 := U.heap) hW (fun a h1 h2 => by rw [hU]; exact hS2.2.1 a h1 h2) hst0)
    rintro q (⟨k, e', h⟩ | h)
    · match k, h with
      | 0, h => cases h; exact haM
      | k + 1, h => simp at h
    · rw [hU] at h; exact Nat.le_trans hS2.1 h
  obtain ⟨adM, aM0, aMs, hwM⟩ := hw
  rw [hwM] at hP3 hD3
  clear hwM
  have hPX3 : va_P D vwCl (zWs (l, D, aC, adX) zTX zX0) H3 := fun k q hq => (hPX k q hq).kept (hkeep q.1 (hPX k q hq).lt (hneq k q hq))
  obtain ⟨iX, zX⟩ := zInj_of hDX
  obtain ⟨iM, zM⟩ := zInj_of hD3
  have zM' : ∀ j : Nat, j < zTM.length → adM j = qM ∨ H2.size ≤ adM j := fun j hj => by
    rcases zM (adM j) ⟨j, hj, rfl⟩ with ⟨k, e', h⟩ | h
    · match k, h with
      | 0, h => left; cases h; rfl
      | k + 1, h => simp at h
    · exact Or.inr h
  have hdis : ∀ i j : Nat, i < zTX.length → j < zTM.length → adX i ≠ adM j := fun i j hi hj h => by
    have hg := zWs_get (l, D, aC, adX) zX0 (List.getElem?_eq_getElem hi)
    rcases zM' j hj with h2 | h2
    · exact hneq i _ hg (h.trans h2)
    · have h3 : adX i < H2.size := (hPX i _ hg).lt
      omega
  have C : zLC p l s m meth c b L xs D aC adX adM := by
    refine ⟨hL, C0, hK, ⟨iX, iM⟩, hdis, ⟨fun i hi => zX (adX i) ⟨i, hi, rfl⟩, fun j hj => ?_⟩, ?_, ?_⟩
    · rcases zM' j hj with h2 | h2
      · rw [h2]; exact haM
      · exact Nat.le_trans hS2.1 h2
    · rw [zStt_A]; exact zStA_narrow (fun q h => zX q h) (zStA_ad aXs hst0)
    · rw [zStt_A]
      refine zStA_narrow (fun q h => ?_) (zStA_ad aMs hst0)
      obtain ⟨j, hj, rfl⟩ := h
      rcases zM' j hj with h2 | h2
      · show s.heap.size ≤ adM j
        rw [h2]; exact haM
      · exact Nat.le_trans hS2.1 h2
  have q2 := zlv_st1 hl1 (i := 2) (by decide) (v := .ref qM) rfl rfl [some (.ref b), some (.ref qX), some (.ref qM), none] rfl
  refine lv_astore_n hx hb dL_law_15 rfl (zlv_has.mp hl1) (by decide) q2.1 (fun ls2 hh2 => ?_)
  have hl2 := q2.2 ls2 hh2
  refine lv_iconst (v := 0) hx hb dL_law_16 (by decide) ?_
  have q3 := zlv_st1 hl2 (i := 3) (by decide) (v := .int 0) rfl rfl [some (.ref b), some (.ref qX), some (.ref qM), some (.int 0)] rfl
  refine lv_istore_n hx hb dL_law_17 rfl (zlv_has.mp hl2) (by decide) q3.1 (fun ls3 hh3 => ?_)
  have hl3 := q3.2 ls3 hh3
  refine W.widen (k := 600000) (n := 7302250) (by decide) (by decide) ?_
  subst aX0 aM0
  exact law_loop C R h0 h1 h2 h3 h4 h5 h6 h7 h8 h9 h10 h11 h12 h13 h14 h15 h16 h17 h18 h19 h20 h21 h22 h23 h24 h25 h26 h27 h28 h29 h30 h31 h32 h33 h34 h35 h36 h37 h38 h39 h40 (L + 7) 0 zX0 M2 (by omega) (by omega) hR0 H3 locs3 ls3 hPX3 hP3 hS3 hl3