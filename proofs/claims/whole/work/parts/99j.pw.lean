/-! the law's cases: questions of the hours ahead -/
section
variable {p : Program} {l : Launch} {e : Env} {R : Room} {s : State} {m : MethodId} {args : Array Value} {below : List Frame} {meth : Method} {c : Code} {H : Heap} {locs : List Loc} {Q : State → Prop} {cells slots : Nat}
variable {cc : ByteArray} {pc : Nat} {ls : Array Slot} {rest st0 : List Value} {D : va_G} {A : Nat → Prop} {own C : String} {nL n index maxL b : Nat} {y : MethodName} {bytes : ByteArray} {ret : Option FieldType} {rm : Room} {As : List Value}
/-- a call whose world behind has one address that isn't told, over some blocks of the world -/
theorem mbQ_ix {r : Int32} {N : Nat} {bs : Nat → va_W} (L : List (Nat × List (ClassId × FieldType) × va_W × va_W)) (S : CallFix p m c cc nL s args wsL_law own) (hK : va_K D vwCl [] s) (hP : va_P D vwCl (bW N bs) H) (hD : va_D A (bW N bs)) (hS : va_S A s.heap H locs) (hA : ∀ q, s.heap.size ≤ q → A q)
    {tysC : List (ClassId × FieldType)} {wc : va_W} {w1 : Nat → va_W} (hM : MetIX l y bytes maxL ret rm D tysC wc w1 (.ref b :: As) r) (hn9 : (L.map Prod.fst).Nodup) (hs9 : ∀ x ∈ L, x.1 < N) (hKL : ∀ x ∈ L, va_K D vwCl x.2.1 s) (hB : ∀ x ∈ L, bs x.1 = x.2.2.1) (hT : L.flatMap (fun x => x.2.1) = tysC) (hC : L.flatMap (fun x => x.2.2.1) = wc)
    (hg : GoodIn wsL_law (wsV own index C y (Cond.code y bytes maxL ret :: wsL_law))) (hrc : rm.cells = 0) (hrs : rm.slots = 0)
    (hd : y.cls = C ∧ y.cls ≠ "java/lang/invoke/MethodHandle" ∧ y.cls ≠ "java/lang/invoke/VarHandle" ∧ (parseMethodDescriptor y.desc).map (fun d => d.parameters.length) = some n) (hR : rm.frames + 1 ≤ R.frames ∧ 8 + (maxL + 11) + rm.locals ≤ R.locals)
    {ci q0 : Nat} {T : u_T} {N9 : Nat} {fs : List Value} (hc : vwCl[ci]? = some (C, T, N9)) (he : wc[q0]? = some (b, .inr (ci, fs)))
    (hn : As.length = n) (hl : ls.size = nL) (hst : st0 = As.reverse ++ .ref b :: rest) (hr8 : (rest.map fun v => v.category).sum ≤ 8) (hdg : decode cc pc = .ok (.invokevirtual index, 3))
    (hf : cells ≤ R.cells ∧ slots ≤ R.slots)
    (kk : ∀ (kx : Nat) (H1 : Heap) (locs1 : List Loc), (∀ (bs' : Nat → va_W) (ex : va_W), (∀ j, j < N → j ∉ L.map Prod.fst → bs' j = bs j) → w1 kx = (L.map Prod.fst).flatMap bs' ++ ex → va_P D vwCl (bW N bs' ++ ex) H1 ∧ va_D A (bW N bs' ++ ex)) → va_S A s.heap H1 locs1 → W p l e R s m args below meth c H1 locs1 cells slots Q (F0 m (pc + 3) ls (.int r :: rest))) : W p l e R s m args below meth c H locs cells slots Q (F0 m pc ls st0) := by
  obtain ⟨wr, hp1, hp2⟩ := blk_perm2 (bs := bs) (N := N) hn9 (fun i hi => by obtain ⟨x, hx, rfl⟩ := List.mem_map.mp hi; exact hs9 x hx)
  have hK1 := kL_all hK hKL
  rw [hT] at hK1
  rw [fmL_congr hB, hC] at hp1
  have hP0 := vP_perm hP hp1
  have hD0 := vD_perm hD hp1
  have hCm := rg_map wc wr
  have hRr := rg_map2 wc wr
  have hPc := hP0.sub (List.range wc.length) (fm_of hCm)
  have hDc := hD0.sub (List.range wc.length) (rg_nd _) hCm
  have hFc := va_free hD0 hS hA (List.range wc.length) hCm
  refine va_calli (va_runV (As := As) (rest := rest) S (hM H.size) (cwV n S.2.2.2.2 hg rfl hrc hrs hd hR) ⟨PreM_blind D tysC wc H.size _, va_recv hK1 hPc hc he, fun U hU hW => ⟨rfl, by rw [hU], by rw [hU]; exact hPc, va_K.moved hW.alike hK1, hDc.weaken (fun _ _ _ _ => trivial)⟩⟩ rfl hn hl hst (lv_room hr8) hdg hf) hS (fun q _ h => hFc q h) hFc (fun r' u t H1 locs1 ht hvm hw hB hz1 hk1 hS1 => ?_)
  obtain ⟨hP1, hD1⟩ := hB
  rw [ht] at hP1
  subst hw
  obtain ⟨hP2, hD2⟩ := va_join hP0 hD0 (List.range wc.length) ((List.range wr.length).map (fun j => wc.length + j)) hCm hRr (rg_nd2 _ _) (rg_dis _ _) hk1 hFc hP1 hD1
  refine kk u H1 locs1 (fun bs' ex h1 h2 => ?_) hS1
  have h3 := hp2 bs' h1
  rw [h2, ← List.append_assoc] at hP2 hD2
  have h4 := h3.append_right ex
  exact ⟨vP_perm hP2 h4, vD_perm hD2 h4⟩
end

section
variable {p : Program} {l : Launch} {e : Env} {s : State} {m9 : MethodId} {below : List Frame} {meth : Method} {c9 : Code} {Q : State → Prop} {D : va_G} {A : Nat → Prop} {adK adV : Nat → Nat} {ad : Nat → Nat → Nat} {cy : Nat → Nat → ClassId} {ims pst : Nat → Option Nat} {b L i N : Nat} {xs : Nat → Int32} {bs : Nat → va_W} {H : Heap} {locs : List Loc} {cells slots : Nat} {ls : Array Slot}
set_option maxHeartbeats 8000000 in
set_option maxRecDepth 100000 in
theorem k_ahead (C : Cx p m9 c9 s A D adK adV ad cy ims pst b L xs) (hi : i + 6 ≤ L) (T : Top D s ad cy ims pst N bs) (hP : va_P D vwCl (bW N bs) H) (hD : va_D A (bW N bs)) (hS : va_S A s.heap H locs) (hl : lv_has ls 4 (lvL ad b i)) (hf : cells + 8 ≤ 600000 ∧ slots + 13200 ≤ 7302250)
    (kk : ∀ (N : Nat) (bs : Nat → va_W) (H : Heap) (locs : List Loc), Top D s ad cy ims pst N bs → va_P D vwCl (bW N bs) H → va_D A (bW N bs) → va_S A s.heap H locs → W p l e room_1 s m9 #[.ref b] below meth c9 H locs (cells + 8) (slots + 13200) Q (F0 m9 1115 ls [])) : W p l e room_1 s m9 #[.ref b] below meth c9 H locs cells slots Q (F0 m9 568 ls []) := by
  obtain ⟨m, c, nx, tn, R, P, A0, rls, bytes, len, fo, x, notes, nh, nr, nm, hour, broken, rung, grip, want, slips, worn, tape, sign, clause, clauses, S, w, im, imF, imX, imM, hN, b0, hBT, b2, hBRR, hBN, b5, hBH, hBO, hB8, hBP, hBS, hB11, hSc, hPs, hIm, hRu, hBM, hTP, hm6, hof, hox⟩ := T
  obtain ⟨S9, hA, hbA, hbl, hX, hL9, hF, hE9, hV9⟩ := id C
  obtain ⟨hx, hb, hml, hown, hts⟩ := id S9
  obtain ⟨k0, kLL, kTp, kRR, kS4, kW5, kH, kO, kW8, kW11, kM, kIm, kPs⟩ := id hF
  have hf9 : cells ≤ room_1.cells ∧ slots ≤ room_1.slots := ⟨Nat.le_trans (Nat.le_add_right _ _) hf.1, Nat.le_trans (Nat.le_add_right _ _) hf.2⟩
  obtain ⟨lg, rd, nxt, wrg, num, txt, mde, dep, lns, opn, opd, stk, tp, wd, wil, mov, brk, kpt, bhr, far, que, qud, onw, mvp, mvk, isf, sth, drx, b46⟩ := id hBM
  obtain ⟨jl, lh, ly, ru, pe, sb, ro, str, wt, tol, srr, sww, g1, g2, g3, bl, kl, hI, hW, hL, hWT, hBg, hhr, hNo⟩ := id hSc
  subst g3
  obtain ⟨md, b4⟩ := id hBN
  obtain ⟨o1, o2, o3, o4, o5, o6, o7, o8, o9, oa, ob, ocr, b7⟩ := id hBO
  obtain ⟨hbr, hwl, hde, hwo, b6⟩ := id hBH
  obtain ⟨tq, th, tb, tr, tg, tw, ts, tk, b8⟩ := id hB8
  rcases id hof with hfo | ⟨f, hfm, hfo⟩
  · skip
    obtain ⟨v, hb1, wl1, de1, h1, b9, rg1, gr1, wt1, sl1, wn1, q1, st1, tp1, wd1, wi1, mo1, br1, kp1, hc, hm⟩ := r_ahead_n (rls := rls) (rc := nn m) (fo := fo) (hb := hbr) (wl := hwl) (de := hde) (th := th) (tb := tb) (tr := tr) (tg := tg) (tw := tw) (ts := ts) (tk := tk) (sign := sign) (clause := clause) (clauses := clauses) (st := stk) (tp := tp) (wd := wd) (wil := wil) (mov := mov) (bk := brk) (kept := kpt) (qp := tq) (qn := lh 0) hI hW hL (by rw [hfo]; decide) (xs (i + 1)) (xs (i + 2)) (xs (i + 3))
    refine lv_aload_n hx hb dL_law_568 rfl (lv_at hl 2 rfl) ?_
    refine ld1 C hS hl hi dL_law_569 dL_law_570 dL_law_571 dL_law_572 dL_law_573 ?_
    refine ld2 C hS hl hi dL_law_574 dL_law_575 dL_law_576 dL_law_577 dL_law_578 ?_
    refine ld3 C hS hl hi dL_law_579 dL_law_580 dL_law_581 dL_law_582 dL_law_583 ?_
    obtain ⟨u6, hu6⟩ : ∃ X : va_W, X = cH (ad 6) (cy 6) hb1 wl1 de1 hwo := ⟨_, rfl⟩
    obtain ⟨u8, hu8⟩ : ∃ X : va_W, X = cW (ad 8) (cy 8) q1 h1 b9 rg1 gr1 wt1 sl1 wn1 := ⟨_, rfl⟩
    obtain ⟨Lc, hLc⟩ : ∃ X : List (Nat × List (ClassId × FieldType) × va_W × va_W), X = [(0, tLL (cy 0), bs 0, bs 0), (4, tSt (cy 4), bs 4, bs 4), (5, tW (cy 5), bs 5, bs 5), (jl, tLd ly, bs jl, bs jl), (7, tO (cy 7), bs 7, bs 7), (6, tH (cy 6), bs 6, u6), (8, tW (cy 8), bs 8, u8)] := ⟨_, rfl⟩
    have hnd : (Lc.map Prod.fst).Nodup := by rw [hLc]; show ([0, 4, 5, jl, 7, 6, 8] : List Nat).Nodup; simp only [List.nodup_cons, List.mem_cons, List.not_mem_nil, or_false, not_or, List.nodup_nil, and_true, not_false_eq_true] <;> omega
    have hlt : ∀ x ∈ Lc, x.1 < N := by rw [hLc]; exact List.forall_mem_cons.mpr ⟨show 0 < N by omega, List.forall_mem_cons.mpr ⟨show 4 < N by omega, List.forall_mem_cons.mpr ⟨show 5 < N by omega, List.forall_mem_cons.mpr ⟨show jl < N by omega, List.forall_mem_cons.mpr ⟨show 7 < N by omega, List.forall_mem_cons.mpr ⟨show 6 < N by omega, List.forall_mem_cons.mpr ⟨show 8 < N by omega, fun _ h9 => absurd h9 List.not_mem_nil⟩⟩⟩⟩⟩⟩⟩
    have hkL : ∀ x ∈ Lc, va_K D vwCl x.2.1 s := by rw [hLc]; exact List.forall_mem_cons.mpr ⟨kLL, List.forall_mem_cons.mpr ⟨kS4, List.forall_mem_cons.mpr ⟨kW5, List.forall_mem_cons.mpr ⟨kl, List.forall_mem_cons.mpr ⟨kO, List.forall_mem_cons.mpr ⟨kH, List.forall_mem_cons.mpr ⟨kW8, fun _ h9 => absurd h9 List.not_mem_nil⟩⟩⟩⟩⟩⟩⟩
    have hbL : ∀ x ∈ Lc, bs x.1 = x.2.2.1 := by rw [hLc]; exact List.forall_mem_cons.mpr ⟨rfl, List.forall_mem_cons.mpr ⟨rfl, List.forall_mem_cons.mpr ⟨rfl, List.forall_mem_cons.mpr ⟨rfl, List.forall_mem_cons.mpr ⟨rfl, List.forall_mem_cons.mpr ⟨rfl, List.forall_mem_cons.mpr ⟨rfl, fun _ h9 => absurd h9 List.not_mem_nil⟩⟩⟩⟩⟩⟩⟩
    refine mbQ_i (As := [.int (xs (i + 1)), .int (xs (i + 2)), .int (xs (i + 3))]) (rest := []) Lc S9 k0 hP hD hS hA (c11_ahead_n (l := l) (D := D) (ad_this := (ad 0)) (cy_this := (cy 0)) (z_this_tape := (ad 1 0)) (z_this_ladderReader := (ad 2 0)) (z_this_ruleReader := (ad 3 0)) (z_this_rules := rls) (z_this_ruleCount := (nn m)) (z_this_images := ims) (z_this_past := pst) (z_this_pastNext := (nn nx)) (z_this_pastCount := (nn c)) (z_this_hours := (ad 6 0)) (z_this_paths := (ad 9 0)) (z_this_siege := (ad 10 0)) (ad_this_now := (ad 4)) (cy_this_now := (cy 4)) (z_this_now_force := fo) (z_this_now_x := x) (z_this_now_notes := notes) (z_this_now_noteHour := nh) (z_this_now_noteRung := nr) (z_this_now_noteMany := nm) (z_this_now_made := md) (ad_this_now_world := (ad 5)) (cy_this_now_world := (cy 5)) (z_this_now_world_hour := hour) (z_this_now_world_broken := broken) (z_this_now_world_rung := rung) (z_this_now_world_grip := grip) (z_this_now_world_want := want) (z_this_now_world_slips := slips) (z_this_now_world_worn := worn) (ad_this_now_world_ladder := lh) (cy_this_now_world_ladder := ly) (z_this_now_world_ladder_rungs := ru) (z_this_now_world_ladder_people := pe) (z_this_now_world_ladder_startBroken := sb) (z_this_now_world_ladder_room := ro) (z_this_now_world_ladder_strength := str) (z_this_now_world_ladder_weight := wt) (z_this_now_world_ladder_told := tol) (z_this_now_world_ladder_startRung := srr) (z_this_now_world_ladder_startWant := sww) (ad_this_outlook := (ad 7)) (cy_this_outlook := (cy 7)) (z_this_outlook_brokenRung := o1) (z_this_outlook_brokenHour := o2) (z_this_outlook_mendedRung := o3) (z_this_outlook_mendedHour := o4) (z_this_outlook_fittingCount := o5) (z_this_outlook_firstFitting := o6) (z_this_outlook_partingRung := o7) (z_this_outlook_mostAlike := o8) (z_this_outlook_windSlips := o9) (z_this_outlook_windFalls := oa) (z_this_outlook_windX := ob) (z_this_outlook_crowds := ocr) (ad_this_outlook_hours := (ad 6)) (cy_this_outlook_hours := (cy 6)) (z_this_outlook_hours_brokenRung := hbr) (z_this_outlook_hours_will := hwl) (z_this_outlook_hours_deed := hde) (z_this_outlook_hours_words := hwo) (ad_this_outlook_trial := (ad 8)) (cy_this_outlook_trial := (cy 8)) (z_this_outlook_trial_ladder := tq) (z_this_outlook_trial_hour := th) (z_this_outlook_trial_broken := tb) (z_this_outlook_trial_rung := tr) (z_this_outlook_trial_grip := tg) (z_this_outlook_trial_want := tw) (z_this_outlook_trial_slips := ts) (z_this_outlook_trial_worn := tk) (a1 := (xs (i + 1))) (a2 := (xs (i + 2))) (a3 := (xs (i + 3))) (o_ret := v) (o_this_outlook_hours_brokenRung := hb1) (o_this_outlook_hours_will := wl1) (o_this_outlook_hours_deed := de1) (o_this_outlook_trial_hour := h1) (o_this_outlook_trial_broken := b9) (o_this_outlook_trial_rung := rg1) (o_this_outlook_trial_grip := gr1) (o_this_outlook_trial_want := wt1) (o_this_outlook_trial_slips := sl1) (o_this_outlook_trial_worn := wn1) (o_link_this_outlook_trial := q1) hc) hnd hlt hkL hbL (by rw [hLc]; rfl) (by rw [hLc]; simp only [List.flatMap_cons, List.flatMap_nil, List.append_nil, List.append_assoc]; rw [b0, b4, b5, bl, b7, b6, b8]) (by rw [hLc]; simp only [List.flatMap_cons, List.flatMap_nil, List.append_nil, List.append_assoc]; rw [b0, b4, b5, bl, b7, hu6, hu8]) (gdV mw_43_9 mw_43_10 mw_43_11 mw_1_2 mw_43_12) rfl rfl hd_f11_ahead_n ⟨Nat.le_of_ble_eq_true rfl, Nat.le_of_ble_eq_true rfl⟩ (ci := 11) (q0 := 0) rfl rfl rfl hl.1 rfl (Nat.le_of_ble_eq_true rfl) dL_law_584 hf9 (fun H locs hP hD hS => ?_)
    obtain ⟨bc, hbc⟩ : ∃ X, X = bsetL bs Lc := ⟨_, rfl⟩
    rw [← hbc] at hP hD
    have t0 : bc 0 = bs 0 := by rw [hbc]; exact bsetL_at (x := (0, tLL (cy 0), bs 0, bs 0)) hnd (by rw [hLc]; exact List.mem_of_getElem? (i := 0) rfl)
    have t1 : bc 4 = bs 4 := by rw [hbc]; exact bsetL_at (x := (4, tSt (cy 4), bs 4, bs 4)) hnd (by rw [hLc]; exact List.mem_of_getElem? (i := 1) rfl)
    have t2 : bc 5 = bs 5 := by rw [hbc]; exact bsetL_at (x := (5, tW (cy 5), bs 5, bs 5)) hnd (by rw [hLc]; exact List.mem_of_getElem? (i := 2) rfl)
    have t3 : bc jl = bs jl := by rw [hbc]; exact bsetL_at (x := (jl, tLd ly, bs jl, bs jl)) hnd (by rw [hLc]; exact List.mem_of_getElem? (i := 3) rfl)
    have t4 : bc 7 = bs 7 := by rw [hbc]; exact bsetL_at (x := (7, tO (cy 7), bs 7, bs 7)) hnd (by rw [hLc]; exact List.mem_of_getElem? (i := 4) rfl)
    have t5 : bc 6 = u6 := by rw [hbc]; exact bsetL_at (x := (6, tH (cy 6), bs 6, u6)) hnd (by rw [hLc]; exact List.mem_of_getElem? (i := 5) rfl)
    have t6 : bc 8 = u8 := by rw [hbc]; exact bsetL_at (x := (8, tW (cy 8), bs 8, u8)) hnd (by rw [hLc]; exact List.mem_of_getElem? (i := 6) rfl)
    have E1 : ∀ j, (j ≠ 6 ∧ j ≠ 8) → bc j = bs j := by
      intro j hj
      by_cases q0 : j = 0
      · rw [q0]; exact t0
      by_cases q1 : j = 4
      · rw [q1]; exact t1
      by_cases q2 : j = 5
      · rw [q2]; exact t2
      by_cases q3 : j = jl
      · rw [q3]; exact t3
      by_cases q4 : j = 7
      · rw [q4]; exact t4
      rw [hbc]
      exact bsetL_ne (by rw [hLc]; show j ∉ ([0, 4, 5, jl, 7, 6, 8] : List Nat); simp only [List.mem_cons, List.not_mem_nil, or_false, not_or]; omega)
    refine lv_aload_n hx hb dL_law_587 rfl (lv_at hl 1 rfl) ?_
    refine ld1 C hS hl hi dL_law_588 dL_law_589 dL_law_590 dL_law_591 dL_law_592 ?_
    refine ld2 C hS hl hi dL_law_593 dL_law_594 dL_law_595 dL_law_596 dL_law_597 ?_
    refine ld3 C hS hl hi dL_law_598 dL_law_599 dL_law_600 dL_law_601 dL_law_602 ?_
    obtain ⟨um, hum⟩ : ∃ X : va_W, X = (cM (ad 46) (cy 46) tape len (nn m) sign lg clause clauses rd nxt wrg num txt mde dep lns opn opd st1 tp1 wd1 S fo x wi1 mo1 br1 w (nn c) kp1 bhr far que qud onw mvp mvk isf sth drx im imF imX imM) := ⟨_, rfl⟩
    have bm : bc 46 = _ := (E1 46 (by omega)).trans b46
    obtain ⟨Lm, hLm⟩ : ∃ X : List (Nat × List (ClassId × FieldType) × va_W × va_W), X = [(46, tM (cy 46), bc 46, um)] := ⟨_, rfl⟩
    have hnm : (Lm.map Prod.fst).Nodup := by rw [hLm]; show ([46] : List Nat).Nodup; decide
    refine mbQ_i (As := [.int (xs (i + 1)), .int (xs (i + 2)), .int (xs (i + 3))]) (rest := [.int v]) Lm S9 k0 hP hD hS hA (c12_ahead (l := l) (D := D) (ad := (ad 46)) (cy := (cy 46)) (z_tape := tape) (z_taped := len) (z_rules := (nn m)) (z_sign := sign) (z_length := lg) (z_clause := clause) (z_clauses := clauses) (z_read := rd) (z_next := nxt) (z_wrong := wrg) (z_number := num) (z_text := txt) (z_made := mde) (z_deep := dep) (z_lines := lns) (z_open := opn) (z_opened := opd) (z_stack := stk) (z_top := tp) (z_word := wd) (z_said := S) (z_force := fo) (z_x := x) (z_will := wil) (z_moved := mov) (z_broke := brk) (z_wasSaid := w) (z_undone := (nn c)) (z_kept := kpt) (z_breakHour := bhr) (z_far := far) (z_queue := que) (z_queued := qud) (z_isOnWay := onw) (z_movePerson := mvp) (z_moveKind := mvk) (z_isFit := isf) (z_standThen := sth) (z_drawX := drx) (z_images := im) (z_imageForce := imF) (z_imageX := imX) (z_isMade := imM) (a1 := (xs (i + 1))) (a2 := (xs (i + 2))) (a3 := (xs (i + 3))) (o_ret := v) (o_stack := st1) (o_top := tp1) (o_word := wd1) (o_said := S) (o_will := wi1) (o_moved := mo1) (o_broke := br1) (o_kept := kp1) hm) hnm (by rw [hLm]; exact List.forall_mem_cons.mpr ⟨show 46 < N by omega, fun _ h9 => absurd h9 List.not_mem_nil⟩) (by rw [hLm]; exact List.forall_mem_cons.mpr ⟨kM, fun _ h9 => absurd h9 List.not_mem_nil⟩) (by rw [hLm]; exact List.forall_mem_cons.mpr ⟨rfl, fun _ h9 => absurd h9 List.not_mem_nil⟩) (by rw [hLm]; rfl) (by rw [hLm]; simp only [List.flatMap_cons, List.flatMap_nil, List.append_nil, List.append_assoc]; rw [bm]) (by rw [hLm]; simp only [List.flatMap_cons, List.flatMap_nil, List.append_nil, List.append_assoc]; rw [hum]) (gdV mw_43_19 mw_43_20 mw_43_21 mw_1_5 mw_43_22) rfl rfl hd_f12_ahead ⟨Nat.le_of_ble_eq_true rfl, Nat.le_of_ble_eq_true rfl⟩ (ci := 12) (q0 := 0) rfl rfl rfl hl.1 rfl (Nat.le_of_ble_eq_true rfl) dL_law_603 hf9 (fun H locs hP hD hS => ?_)
    obtain ⟨bn, hbn⟩ : ∃ X, X = bsetL bc Lm := ⟨_, rfl⟩
    rw [← hbn] at hP hD
    have tm : bn 46 = um := by rw [hbn]; exact bsetL_at (x := (46, tM (cy 46), bc 46, um)) hnm (by rw [hLm]; exact List.mem_of_getElem? (i := 0) rfl)
    have E2 : ∀ j, j ≠ 46 → bn j = bc j := by
      intro j hj
      rw [hbn]
      exact bsetL_ne (by rw [hLm]; show j ∉ ([46] : List Nat); simp only [List.mem_cons, List.not_mem_nil, or_false]; exact hj)
    have E : ∀ j, (j ≠ 46 ∧ j ≠ 6 ∧ j ≠ 8) → bn j = bs j := fun j hj => (E2 j (by omega)).trans (E1 j (by omega))
    have s5 : bn 6 = u6 := (E2 _ (by omega)).trans t5
    have s6 : bn 8 = u8 := (E2 _ (by omega)).trans t6
    refine lv_icmp_eq (tgt := 1115) hx hb dL_law_606 rfl (fun _ => ?_) (fun c8 => absurd rfl c8)
    refine W.widen (k := cells + 8) (n := slots + 13200) (Nat.le_add_right _ _) (Nat.le_add_right _ _) ?_
    have EL : ∀ j, 47 ≤ j → j < N → bn j = bs j := fun j h1 h2 => E j (by omega)
    exact kk N bn H locs ⟨m, c, nx, tn, R, P, (lh 0), rls, bytes, len, fo, x, notes, nh, nr, nm, hour, broken, rung, grip, want, slips, worn, tape, sign, clause, clauses, S, w, im, imF, imX, imM, hN, (E 0 (by omega)).trans b0, hBT.congr (E 1 (by omega)), (E 2 (by omega)).trans b2, hBRR.congr (E 3 (by omega)), hBN.congr (E 4 (by omega)), (E 5 (by omega)).trans b5, ⟨_, _, _, _, (s5.trans hu6)⟩, hBO.congr (E 7 (by omega)), ⟨_, _, _, _, _, _, _, _, (s6.trans hu8)⟩, hBP.congr (E 9 (by omega)), hBS.congr (E 10 (by omega)), hB11.congr (E 11 (by omega)), hSc.congr (Nat.le_refl _) EL, hPs.congr (fun k hk => E _ (by omega)), hIm.congr (Nat.le_refl _) (Nat.le_refl _) (fun k hk => E _ (by omega)) EL, hRu.congr (fun j hj => E _ (by omega)) hm6, ⟨_, _, _, _, _, _, _, _, _, _, _, _, _, _, _, _, _, _, _, _, _, _, _, _, _, _, _, _, tm.trans hum⟩, hTP, hm6, hof, hox⟩ hP hD hS
  · skip
    obtain ⟨rh, ry, rnc, rco, rns, rse, rnt, rte, rsk, rtp, rcs, hrl, bru, kru, hr1, hr2, hr3⟩ := hRu.1 f hfm
    have hRE := rEv hr1 hr2 hr3 (show f < 6 by omega)
    obtain ⟨v, hb1, wl1, de1, wo1, h1, b9, rg1, gr1, wt1, sl1, wn1, sk1, tq1, q1, st1, tp1, wd1, wi1, mo1, br1, kp1, hc, hm⟩ := r_ahead_r (rls := rls) (rc := nn m) (fo := fo) (hb := hbr) (wl := hwl) (de := hde) (th := th) (tb := tb) (tr := tr) (tg := tg) (tw := tw) (ts := ts) (tk := tk) (sign := sign) (clause := clause) (clauses := clauses) (st := stk) (tp := tp) (wd := wd) (wil := wil) (mov := mov) (bk := brk) (kept := kpt) (qp := tq) (qn := lh 0) (wo := hwo) (stack := rsk) (top := rtp) hI hW hL (f := f) (by omega) hfo (by rw [hfo]; exact nle (by omega) (by omega) (by omega)) hrl (hfo ▸ hRE) (xs (i + 1)) (xs (i + 2)) (xs (i + 3))
    refine lv_aload_n hx hb dL_law_568 rfl (lv_at hl 2 rfl) ?_
    refine ld1 C hS hl hi dL_law_569 dL_law_570 dL_law_571 dL_law_572 dL_law_573 ?_
    refine ld2 C hS hl hi dL_law_574 dL_law_575 dL_law_576 dL_law_577 dL_law_578 ?_
    refine ld3 C hS hl hi dL_law_579 dL_law_580 dL_law_581 dL_law_582 dL_law_583 ?_
    obtain ⟨u6, hu6⟩ : ∃ X : va_W, X = cH (ad 6) (cy 6) hb1 wl1 de1 wo1 := ⟨_, rfl⟩
    obtain ⟨u8, hu8⟩ : ∃ X : va_W, X = cW (ad 8) (cy 8) q1 h1 b9 rg1 gr1 wt1 sl1 wn1 := ⟨_, rfl⟩
    obtain ⟨u40f, hu40f⟩ : ∃ X : va_W, X = cRu rh ry rnc rco rns rse rnt rte sk1 tq1 := ⟨_, rfl⟩
    obtain ⟨Lc, hLc⟩ : ∃ X : List (Nat × List (ClassId × FieldType) × va_W × va_W), X = [(0, tLL (cy 0), bs 0, bs 0), (4, tSt (cy 4), bs 4, bs 4), (5, tW (cy 5), bs 5, bs 5), (jl, tLd ly, bs jl, bs jl), (7, tO (cy 7), bs 7, bs 7), (6, tH (cy 6), bs 6, u6), (8, tW (cy 8), bs 8, u8), ((40 + f), tRu ry, bs (40 + f), u40f)] := ⟨_, rfl⟩
    have hnd : (Lc.map Prod.fst).Nodup := by rw [hLc]; show ([0, 4, 5, jl, 7, 6, 8, (40 + f)] : List Nat).Nodup; simp only [List.nodup_cons, List.mem_cons, List.not_mem_nil, or_false, not_or, List.nodup_nil, and_true, not_false_eq_true] <;> omega
    have hlt : ∀ x ∈ Lc, x.1 < N := by rw [hLc]; exact List.forall_mem_cons.mpr ⟨show 0 < N by omega, List.forall_mem_cons.mpr ⟨show 4 < N by omega, List.forall_mem_cons.mpr ⟨show 5 < N by omega, List.forall_mem_cons.mpr ⟨show jl < N by omega, List.forall_mem_cons.mpr ⟨show 7 < N by omega, List.forall_mem_cons.mpr ⟨show 6 < N by omega, List.forall_mem_cons.mpr ⟨show 8 < N by omega, List.forall_mem_cons.mpr ⟨show (40 + f) < N by omega, fun _ h9 => absurd h9 List.not_mem_nil⟩⟩⟩⟩⟩⟩⟩⟩
    have hkL : ∀ x ∈ Lc, va_K D vwCl x.2.1 s := by rw [hLc]; exact List.forall_mem_cons.mpr ⟨kLL, List.forall_mem_cons.mpr ⟨kS4, List.forall_mem_cons.mpr ⟨kW5, List.forall_mem_cons.mpr ⟨kl, List.forall_mem_cons.mpr ⟨kO, List.forall_mem_cons.mpr ⟨kH, List.forall_mem_cons.mpr ⟨kW8, List.forall_mem_cons.mpr ⟨kru, fun _ h9 => absurd h9 List.not_mem_nil⟩⟩⟩⟩⟩⟩⟩⟩
    have hbL : ∀ x ∈ Lc, bs x.1 = x.2.2.1 := by rw [hLc]; exact List.forall_mem_cons.mpr ⟨rfl, List.forall_mem_cons.mpr ⟨rfl, List.forall_mem_cons.mpr ⟨rfl, List.forall_mem_cons.mpr ⟨rfl, List.forall_mem_cons.mpr ⟨rfl, List.forall_mem_cons.mpr ⟨rfl, List.forall_mem_cons.mpr ⟨rfl, List.forall_mem_cons.mpr ⟨rfl, fun _ h9 => absurd h9 List.not_mem_nil⟩⟩⟩⟩⟩⟩⟩⟩
    refine mbQ_i (As := [.int (xs (i + 1)), .int (xs (i + 2)), .int (xs (i + 3))]) (rest := []) Lc S9 k0 hP hD hS hA (c11_ahead_r (l := l) (D := D) (ad_this := (ad 0)) (cy_this := (cy 0)) (z_this_tape := (ad 1 0)) (z_this_ladderReader := (ad 2 0)) (z_this_ruleReader := (ad 3 0)) (z_this_rules := rls) (z_this_ruleCount := (nn m)) (z_this_images := ims) (z_this_past := pst) (z_this_pastNext := (nn nx)) (z_this_pastCount := (nn c)) (z_this_hours := (ad 6 0)) (z_this_paths := (ad 9 0)) (z_this_siege := (ad 10 0)) (ad_this_now := (ad 4)) (cy_this_now := (cy 4)) (z_this_now_force := fo) (z_this_now_x := x) (z_this_now_notes := notes) (z_this_now_noteHour := nh) (z_this_now_noteRung := nr) (z_this_now_noteMany := nm) (z_this_now_made := md) (ad_this_now_world := (ad 5)) (cy_this_now_world := (cy 5)) (z_this_now_world_hour := hour) (z_this_now_world_broken := broken) (z_this_now_world_rung := rung) (z_this_now_world_grip := grip) (z_this_now_world_want := want) (z_this_now_world_slips := slips) (z_this_now_world_worn := worn) (ad_this_now_world_ladder := lh) (cy_this_now_world_ladder := ly) (z_this_now_world_ladder_rungs := ru) (z_this_now_world_ladder_people := pe) (z_this_now_world_ladder_startBroken := sb) (z_this_now_world_ladder_room := ro) (z_this_now_world_ladder_strength := str) (z_this_now_world_ladder_weight := wt) (z_this_now_world_ladder_told := tol) (z_this_now_world_ladder_startRung := srr) (z_this_now_world_ladder_startWant := sww) (ad_this_outlook := (ad 7)) (cy_this_outlook := (cy 7)) (z_this_outlook_brokenRung := o1) (z_this_outlook_brokenHour := o2) (z_this_outlook_mendedRung := o3) (z_this_outlook_mendedHour := o4) (z_this_outlook_fittingCount := o5) (z_this_outlook_firstFitting := o6) (z_this_outlook_partingRung := o7) (z_this_outlook_mostAlike := o8) (z_this_outlook_windSlips := o9) (z_this_outlook_windFalls := oa) (z_this_outlook_windX := ob) (z_this_outlook_crowds := ocr) (ad_this_outlook_hours := (ad 6)) (cy_this_outlook_hours := (cy 6)) (z_this_outlook_hours_brokenRung := hbr) (z_this_outlook_hours_will := hwl) (z_this_outlook_hours_deed := hde) (z_this_outlook_hours_words := hwo) (ad_this_outlook_trial := (ad 8)) (cy_this_outlook_trial := (cy 8)) (z_this_outlook_trial_ladder := tq) (z_this_outlook_trial_hour := th) (z_this_outlook_trial_broken := tb) (z_this_outlook_trial_rung := tr) (z_this_outlook_trial_grip := tg) (z_this_outlook_trial_want := tw) (z_this_outlook_trial_slips := ts) (z_this_outlook_trial_worn := tk) (ad_this_rulesAt := rh) (cy_this_rulesAt := ry) (n_this_rulesAt_code := rnc) (z_this_rulesAt_code := rco) (n_this_rulesAt_sumEnd := rns) (z_this_rulesAt_sumEnd := rse) (n_this_rulesAt_testEnd := rnt) (z_this_rulesAt_testEnd := rte) (z_this_rulesAt_stack := rsk) (z_this_rulesAt_top := rtp) (a1 := (xs (i + 1))) (a2 := (xs (i + 2))) (a3 := (xs (i + 3))) (o_ret := v) (o_this_outlook_hours_brokenRung := hb1) (o_this_outlook_hours_will := wl1) (o_this_outlook_hours_deed := de1) (o_this_outlook_hours_words := wo1) (o_this_outlook_trial_hour := h1) (o_this_outlook_trial_broken := b9) (o_this_outlook_trial_rung := rg1) (o_this_outlook_trial_grip := gr1) (o_this_outlook_trial_want := wt1) (o_this_outlook_trial_slips := sl1) (o_this_outlook_trial_worn := wn1) (o_this_rulesAt_stack := sk1) (o_this_rulesAt_top := tq1) (o_link_this_outlook_trial := q1) hc) hnd hlt hkL hbL (by rw [hLc]; rfl) (by rw [hLc]; simp only [List.flatMap_cons, List.flatMap_nil, List.append_nil, List.append_assoc]; rw [b0, b4, b5, bl, b7, b6, b8, bru]) (by rw [hLc]; simp only [List.flatMap_cons, List.flatMap_nil, List.append_nil, List.append_assoc]; rw [b0, b4, b5, bl, b7, hu6, hu8, hu40f]) (gdV mw_43_9 mw_43_10 mw_43_11 mw_1_2 mw_43_12) rfl rfl hd_f11_ahead_r ⟨Nat.le_of_ble_eq_true rfl, Nat.le_of_ble_eq_true rfl⟩ (ci := 11) (q0 := 0) rfl rfl rfl hl.1 rfl (Nat.le_of_ble_eq_true rfl) dL_law_584 hf9 (fun H locs hP hD hS => ?_)
    obtain ⟨bc, hbc⟩ : ∃ X, X = bsetL bs Lc := ⟨_, rfl⟩
    rw [← hbc] at hP hD
    have t0 : bc 0 = bs 0 := by rw [hbc]; exact bsetL_at (x := (0, tLL (cy 0), bs 0, bs 0)) hnd (by rw [hLc]; exact List.mem_of_getElem? (i := 0) rfl)
    have t1 : bc 4 = bs 4 := by rw [hbc]; exact bsetL_at (x := (4, tSt (cy 4), bs 4, bs 4)) hnd (by rw [hLc]; exact List.mem_of_getElem? (i := 1) rfl)
    have t2 : bc 5 = bs 5 := by rw [hbc]; exact bsetL_at (x := (5, tW (cy 5), bs 5, bs 5)) hnd (by rw [hLc]; exact List.mem_of_getElem? (i := 2) rfl)
    have t3 : bc jl = bs jl := by rw [hbc]; exact bsetL_at (x := (jl, tLd ly, bs jl, bs jl)) hnd (by rw [hLc]; exact List.mem_of_getElem? (i := 3) rfl)
    have t4 : bc 7 = bs 7 := by rw [hbc]; exact bsetL_at (x := (7, tO (cy 7), bs 7, bs 7)) hnd (by rw [hLc]; exact List.mem_of_getElem? (i := 4) rfl)
    have t5 : bc 6 = u6 := by rw [hbc]; exact bsetL_at (x := (6, tH (cy 6), bs 6, u6)) hnd (by rw [hLc]; exact List.mem_of_getElem? (i := 5) rfl)
    have t6 : bc 8 = u8 := by rw [hbc]; exact bsetL_at (x := (8, tW (cy 8), bs 8, u8)) hnd (by rw [hLc]; exact List.mem_of_getElem? (i := 6) rfl)
    have t7 : bc (40 + f) = u40f := by rw [hbc]; exact bsetL_at (x := ((40 + f), tRu ry, bs (40 + f), u40f)) hnd (by rw [hLc]; exact List.mem_of_getElem? (i := 7) rfl)
    have E1 : ∀ j, (j ≠ 6 ∧ j ≠ 8 ∧ j ≠ (40 + f)) → bc j = bs j := by
      intro j hj
      by_cases q0 : j = 0
      · rw [q0]; exact t0
      by_cases q1 : j = 4
      · rw [q1]; exact t1
      by_cases q2 : j = 5
      · rw [q2]; exact t2
      by_cases q3 : j = jl
      · rw [q3]; exact t3
      by_cases q4 : j = 7
      · rw [q4]; exact t4
      rw [hbc]
      exact bsetL_ne (by rw [hLc]; show j ∉ ([0, 4, 5, jl, 7, 6, 8, (40 + f)] : List Nat); simp only [List.mem_cons, List.not_mem_nil, or_false, not_or]; omega)
    refine lv_aload_n hx hb dL_law_587 rfl (lv_at hl 1 rfl) ?_
    refine ld1 C hS hl hi dL_law_588 dL_law_589 dL_law_590 dL_law_591 dL_law_592 ?_
    refine ld2 C hS hl hi dL_law_593 dL_law_594 dL_law_595 dL_law_596 dL_law_597 ?_
    refine ld3 C hS hl hi dL_law_598 dL_law_599 dL_law_600 dL_law_601 dL_law_602 ?_
    obtain ⟨um, hum⟩ : ∃ X : va_W, X = (cM (ad 46) (cy 46) tape len (nn m) sign lg clause clauses rd nxt wrg num txt mde dep lns opn opd st1 tp1 wd1 S fo x wi1 mo1 br1 w (nn c) kp1 bhr far que qud onw mvp mvk isf sth drx im imF imX imM) := ⟨_, rfl⟩
    have bm : bc 46 = _ := (E1 46 (by omega)).trans b46
    obtain ⟨Lm, hLm⟩ : ∃ X : List (Nat × List (ClassId × FieldType) × va_W × va_W), X = [(46, tM (cy 46), bc 46, um)] := ⟨_, rfl⟩
    have hnm : (Lm.map Prod.fst).Nodup := by rw [hLm]; show ([46] : List Nat).Nodup; decide
    refine mbQ_i (As := [.int (xs (i + 1)), .int (xs (i + 2)), .int (xs (i + 3))]) (rest := [.int v]) Lm S9 k0 hP hD hS hA (c12_ahead (l := l) (D := D) (ad := (ad 46)) (cy := (cy 46)) (z_tape := tape) (z_taped := len) (z_rules := (nn m)) (z_sign := sign) (z_length := lg) (z_clause := clause) (z_clauses := clauses) (z_read := rd) (z_next := nxt) (z_wrong := wrg) (z_number := num) (z_text := txt) (z_made := mde) (z_deep := dep) (z_lines := lns) (z_open := opn) (z_opened := opd) (z_stack := stk) (z_top := tp) (z_word := wd) (z_said := S) (z_force := fo) (z_x := x) (z_will := wil) (z_moved := mov) (z_broke := brk) (z_wasSaid := w) (z_undone := (nn c)) (z_kept := kpt) (z_breakHour := bhr) (z_far := far) (z_queue := que) (z_queued := qud) (z_isOnWay := onw) (z_movePerson := mvp) (z_moveKind := mvk) (z_isFit := isf) (z_standThen := sth) (z_drawX := drx) (z_images := im) (z_imageForce := imF) (z_imageX := imX) (z_isMade := imM) (a1 := (xs (i + 1))) (a2 := (xs (i + 2))) (a3 := (xs (i + 3))) (o_ret := v) (o_stack := st1) (o_top := tp1) (o_word := wd1) (o_said := S) (o_will := wi1) (o_moved := mo1) (o_broke := br1) (o_kept := kp1) hm) hnm (by rw [hLm]; exact List.forall_mem_cons.mpr ⟨show 46 < N by omega, fun _ h9 => absurd h9 List.not_mem_nil⟩) (by rw [hLm]; exact List.forall_mem_cons.mpr ⟨kM, fun _ h9 => absurd h9 List.not_mem_nil⟩) (by rw [hLm]; exact List.forall_mem_cons.mpr ⟨rfl, fun _ h9 => absurd h9 List.not_mem_nil⟩) (by rw [hLm]; rfl) (by rw [hLm]; simp only [List.flatMap_cons, List.flatMap_nil, List.append_nil, List.append_assoc]; rw [bm]) (by rw [hLm]; simp only [List.flatMap_cons, List.flatMap_nil, List.append_nil, List.append_assoc]; rw [hum]) (gdV mw_43_19 mw_43_20 mw_43_21 mw_1_5 mw_43_22) rfl rfl hd_f12_ahead ⟨Nat.le_of_ble_eq_true rfl, Nat.le_of_ble_eq_true rfl⟩ (ci := 12) (q0 := 0) rfl rfl rfl hl.1 rfl (Nat.le_of_ble_eq_true rfl) dL_law_603 hf9 (fun H locs hP hD hS => ?_)
    obtain ⟨bn, hbn⟩ : ∃ X, X = bsetL bc Lm := ⟨_, rfl⟩
    rw [← hbn] at hP hD
    have tm : bn 46 = um := by rw [hbn]; exact bsetL_at (x := (46, tM (cy 46), bc 46, um)) hnm (by rw [hLm]; exact List.mem_of_getElem? (i := 0) rfl)
    have E2 : ∀ j, j ≠ 46 → bn j = bc j := by
      intro j hj
      rw [hbn]
      exact bsetL_ne (by rw [hLm]; show j ∉ ([46] : List Nat); simp only [List.mem_cons, List.not_mem_nil, or_false]; exact hj)
    have E : ∀ j, (j ≠ 46 ∧ j ≠ 6 ∧ j ≠ 8 ∧ j ≠ (40 + f)) → bn j = bs j := fun j hj => (E2 j (by omega)).trans (E1 j (by omega))
    have s5 : bn 6 = u6 := (E2 _ (by omega)).trans t5
    have s6 : bn 8 = u8 := (E2 _ (by omega)).trans t6
    have s7 : bn (40 + f) = u40f := (E2 _ (by omega)).trans t7
    refine lv_icmp_eq (tgt := 1115) hx hb dL_law_606 rfl (fun _ => ?_) (fun c8 => absurd rfl c8)
    refine W.widen (k := cells + 8) (n := slots + 13200) (Nat.le_add_right _ _) (Nat.le_add_right _ _) ?_
    have EL : ∀ j, 47 ≤ j → j < N → bn j = bs j := fun j h1 h2 => E j (by omega)
    exact kk N bn H locs ⟨m, c, nx, tn, R, P, (lh 0), rls, bytes, len, fo, x, notes, nh, nr, nm, hour, broken, rung, grip, want, slips, worn, tape, sign, clause, clauses, S, w, im, imF, imX, imM, hN, (E 0 (by omega)).trans b0, hBT.congr (E 1 (by omega)), (E 2 (by omega)).trans b2, hBRR.congr (E 3 (by omega)), hBN.congr (E 4 (by omega)), (E 5 (by omega)).trans b5, ⟨_, _, _, _, (s5.trans hu6)⟩, hBO.congr (E 7 (by omega)), ⟨_, _, _, _, _, _, _, _, (s6.trans hu8)⟩, hBP.congr (E 9 (by omega)), hBS.congr (E 10 (by omega)), hB11.congr (E 11 (by omega)), hSc.congr (Nat.le_refl _) EL, hPs.congr (fun k hk => E _ (by omega)), hIm.congr (Nat.le_refl _) (Nat.le_refl _) (fun k hk => E _ (by omega)) EL, hRu.run hm6 hfm hrl (s7.trans hu40f) kru hr1 hr2 hr3 (fun j h1 h2 => E _ (by omega)), ⟨_, _, _, _, _, _, _, _, _, _, _, _, _, _, _, _, _, _, _, _, _, _, _, _, _, _, _, _, tm.trans hum⟩, hTP, hm6, hof, hox⟩ hP hD hS

set_option maxHeartbeats 8000000 in
set_option maxRecDepth 100000 in
theorem k_breaks (C : Cx p m9 c9 s A D adK adV ad cy ims pst b L xs) (hi : i + 6 ≤ L) (T : Top D s ad cy ims pst N bs) (hP : va_P D vwCl (bW N bs) H) (hD : va_D A (bW N bs)) (hS : va_S A s.heap H locs) (hl : lv_has ls 4 (lvL ad b i)) (hf : cells + 8 ≤ 600000 ∧ slots + 13200 ≤ 7302250)
    (kk : ∀ (N : Nat) (bs : Nat → va_W) (H : Heap) (locs : List Loc), Top D s ad cy ims pst N bs → va_P D vwCl (bW N bs) H → va_D A (bW N bs) → va_S A s.heap H locs → W p l e room_1 s m9 #[.ref b] below meth c9 H locs (cells + 8) (slots + 13200) Q (F0 m9 1115 ls [])) : W p l e room_1 s m9 #[.ref b] below meth c9 H locs cells slots Q (F0 m9 611 ls []) := by
  obtain ⟨m, c, nx, tn, R, P, A0, rls, bytes, len, fo, x, notes, nh, nr, nm, hour, broken, rung, grip, want, slips, worn, tape, sign, clause, clauses, S, w, im, imF, imX, imM, hN, b0, hBT, b2, hBRR, hBN, b5, hBH, hBO, hB8, hBP, hBS, hB11, hSc, hPs, hIm, hRu, hBM, hTP, hm6, hof, hox⟩ := T
  obtain ⟨S9, hA, hbA, hbl, hX, hL9, hF, hE9, hV9⟩ := id C
  obtain ⟨hx, hb, hml, hown, hts⟩ := id S9
  obtain ⟨k0, kLL, kTp, kRR, kS4, kW5, kH, kO, kW8, kW11, kM, kIm, kPs⟩ := id hF
  have hf9 : cells ≤ room_1.cells ∧ slots ≤ room_1.slots := ⟨Nat.le_trans (Nat.le_add_right _ _) hf.1, Nat.le_trans (Nat.le_add_right _ _) hf.2⟩
  obtain ⟨lg, rd, nxt, wrg, num, txt, mde, dep, lns, opn, opd, stk, tp, wd, wil, mov, brk, kpt, bhr, far, que, qud, onw, mvp, mvk, isf, sth, drx, b46⟩ := id hBM
  obtain ⟨jl, lh, ly, ru, pe, sb, ro, str, wt, tol, srr, sww, g1, g2, g3, bl, kl, hI, hW, hL, hWT, hBg, hhr, hNo⟩ := id hSc
  subst g3
  obtain ⟨md, b4⟩ := id hBN
  obtain ⟨o1, o2, o3, o4, o5, o6, o7, o8, o9, oa, ob, ocr, b7⟩ := id hBO
  obtain ⟨hbr, hwl, hde, hwo, b6⟩ := id hBH
  obtain ⟨tq, th, tb, tr, tg, tw, ts, tk, b8⟩ := id hB8
  rcases id hof with hfo | ⟨f, hfm, hfo⟩
  · skip
    obtain ⟨v, ob1, oh1, hb1, wl1, de1, h1, b9, rg1, gr1, wt1, sl1, wn1, q1, st1, tp1, wd1, wi1, mo1, br1, kp1, bh1, hc, hm⟩ := r_breaks_n (rls := rls) (rc := nn m) (fo := fo) (hb := hbr) (wl := hwl) (de := hde) (th := th) (tb := tb) (tr := tr) (tg := tg) (tw := tw) (ts := ts) (tk := tk) (sign := sign) (clause := clause) (clauses := clauses) (st := stk) (tp := tp) (wd := wd) (wil := wil) (mov := mov) (bk := brk) (kept := kpt) (qp := tq) (qn := lh 0) (ob := o1) (oh := o2) (bh := bhr) hI hW hL hhr (by rw [hfo]; decide) (xs (i + 1))
    refine lv_aload_n hx hb dL_law_611 rfl (lv_at hl 2 rfl) ?_
    refine ld1 C hS hl hi dL_law_612 dL_law_613 dL_law_614 dL_law_615 dL_law_616 ?_
    obtain ⟨u7, hu7⟩ : ∃ X : va_W, X = cO (ad 7) (cy 7) ob1 oh1 o3 o4 o5 o6 o7 o8 o9 oa ob ((ad 6) 0) ((ad 8) 0) ocr := ⟨_, rfl⟩
    obtain ⟨u6, hu6⟩ : ∃ X : va_W, X = cH (ad 6) (cy 6) hb1 wl1 de1 hwo := ⟨_, rfl⟩
    obtain ⟨u8, hu8⟩ : ∃ X : va_W, X = cW (ad 8) (cy 8) q1 h1 b9 rg1 gr1 wt1 sl1 wn1 := ⟨_, rfl⟩
    obtain ⟨Lc, hLc⟩ : ∃ X : List (Nat × List (ClassId × FieldType) × va_W × va_W), X = [(0, tLL (cy 0), bs 0, bs 0), (4, tSt (cy 4), bs 4, bs 4), (5, tW (cy 5), bs 5, bs 5), (jl, tLd ly, bs jl, bs jl), (7, tO (cy 7), bs 7, u7), (6, tH (cy 6), bs 6, u6), (8, tW (cy 8), bs 8, u8)] := ⟨_, rfl⟩
    have hnd : (Lc.map Prod.fst).Nodup := by rw [hLc]; show ([0, 4, 5, jl, 7, 6, 8] : List Nat).Nodup; simp only [List.nodup_cons, List.mem_cons, List.not_mem_nil, or_false, not_or, List.nodup_nil, and_true, not_false_eq_true] <;> omega
    have hlt : ∀ x ∈ Lc, x.1 < N := by rw [hLc]; exact List.forall_mem_cons.mpr ⟨show 0 < N by omega, List.forall_mem_cons.mpr ⟨show 4 < N by omega, List.forall_mem_cons.mpr ⟨show 5 < N by omega, List.forall_mem_cons.mpr ⟨show jl < N by omega, List.forall_mem_cons.mpr ⟨show 7 < N by omega, List.forall_mem_cons.mpr ⟨show 6 < N by omega, List.forall_mem_cons.mpr ⟨show 8 < N by omega, fun _ h9 => absurd h9 List.not_mem_nil⟩⟩⟩⟩⟩⟩⟩
    have hkL : ∀ x ∈ Lc, va_K D vwCl x.2.1 s := by rw [hLc]; exact List.forall_mem_cons.mpr ⟨kLL, List.forall_mem_cons.mpr ⟨kS4, List.forall_mem_cons.mpr ⟨kW5, List.forall_mem_cons.mpr ⟨kl, List.forall_mem_cons.mpr ⟨kO, List.forall_mem_cons.mpr ⟨kH, List.forall_mem_cons.mpr ⟨kW8, fun _ h9 => absurd h9 List.not_mem_nil⟩⟩⟩⟩⟩⟩⟩
    have hbL : ∀ x ∈ Lc, bs x.1 = x.2.2.1 := by rw [hLc]; exact List.forall_mem_cons.mpr ⟨rfl, List.forall_mem_cons.mpr ⟨rfl, List.forall_mem_cons.mpr ⟨rfl, List.forall_mem_cons.mpr ⟨rfl, List.forall_mem_cons.mpr ⟨rfl, List.forall_mem_cons.mpr ⟨rfl, List.forall_mem_cons.mpr ⟨rfl, fun _ h9 => absurd h9 List.not_mem_nil⟩⟩⟩⟩⟩⟩⟩
    refine mbQ_i (As := [.int (xs (i + 1))]) (rest := []) Lc S9 k0 hP hD hS hA (c11_breaks_n (l := l) (D := D) (ad_this := (ad 0)) (cy_this := (cy 0)) (z_this_tape := (ad 1 0)) (z_this_ladderReader := (ad 2 0)) (z_this_ruleReader := (ad 3 0)) (z_this_rules := rls) (z_this_ruleCount := (nn m)) (z_this_images := ims) (z_this_past := pst) (z_this_pastNext := (nn nx)) (z_this_pastCount := (nn c)) (z_this_hours := (ad 6 0)) (z_this_paths := (ad 9 0)) (z_this_siege := (ad 10 0)) (ad_this_now := (ad 4)) (cy_this_now := (cy 4)) (z_this_now_force := fo) (z_this_now_x := x) (z_this_now_notes := notes) (z_this_now_noteHour := nh) (z_this_now_noteRung := nr) (z_this_now_noteMany := nm) (z_this_now_made := md) (ad_this_now_world := (ad 5)) (cy_this_now_world := (cy 5)) (z_this_now_world_hour := hour) (z_this_now_world_broken := broken) (z_this_now_world_rung := rung) (z_this_now_world_grip := grip) (z_this_now_world_want := want) (z_this_now_world_slips := slips) (z_this_now_world_worn := worn) (ad_this_now_world_ladder := lh) (cy_this_now_world_ladder := ly) (z_this_now_world_ladder_rungs := ru) (z_this_now_world_ladder_people := pe) (z_this_now_world_ladder_startBroken := sb) (z_this_now_world_ladder_room := ro) (z_this_now_world_ladder_strength := str) (z_this_now_world_ladder_weight := wt) (z_this_now_world_ladder_told := tol) (z_this_now_world_ladder_startRung := srr) (z_this_now_world_ladder_startWant := sww) (ad_this_outlook := (ad 7)) (cy_this_outlook := (cy 7)) (z_this_outlook_brokenRung := o1) (z_this_outlook_brokenHour := o2) (z_this_outlook_mendedRung := o3) (z_this_outlook_mendedHour := o4) (z_this_outlook_fittingCount := o5) (z_this_outlook_firstFitting := o6) (z_this_outlook_partingRung := o7) (z_this_outlook_mostAlike := o8) (z_this_outlook_windSlips := o9) (z_this_outlook_windFalls := oa) (z_this_outlook_windX := ob) (z_this_outlook_crowds := ocr) (ad_this_outlook_hours := (ad 6)) (cy_this_outlook_hours := (cy 6)) (z_this_outlook_hours_brokenRung := hbr) (z_this_outlook_hours_will := hwl) (z_this_outlook_hours_deed := hde) (z_this_outlook_hours_words := hwo) (ad_this_outlook_trial := (ad 8)) (cy_this_outlook_trial := (cy 8)) (z_this_outlook_trial_ladder := tq) (z_this_outlook_trial_hour := th) (z_this_outlook_trial_broken := tb) (z_this_outlook_trial_rung := tr) (z_this_outlook_trial_grip := tg) (z_this_outlook_trial_want := tw) (z_this_outlook_trial_slips := ts) (z_this_outlook_trial_worn := tk) (a1 := (xs (i + 1))) (o_ret := v) (o_this_outlook_brokenRung := ob1) (o_this_outlook_brokenHour := oh1) (o_this_outlook_hours_brokenRung := hb1) (o_this_outlook_hours_will := wl1) (o_this_outlook_hours_deed := de1) (o_this_outlook_trial_hour := h1) (o_this_outlook_trial_broken := b9) (o_this_outlook_trial_rung := rg1) (o_this_outlook_trial_grip := gr1) (o_this_outlook_trial_want := wt1) (o_this_outlook_trial_slips := sl1) (o_this_outlook_trial_worn := wn1) (o_link_this_outlook_trial := q1) hc) hnd hlt hkL hbL (by rw [hLc]; rfl) (by rw [hLc]; simp only [List.flatMap_cons, List.flatMap_nil, List.append_nil, List.append_assoc]; rw [b0, b4, b5, bl, b7, b6, b8]) (by rw [hLc]; simp only [List.flatMap_cons, List.flatMap_nil, List.append_nil, List.append_assoc]; rw [b0, b4, b5, bl, hu7, hu6, hu8]) (gdV mw_44_9 mw_44_10 mw_44_11 mw_1_2 mw_44_12) rfl rfl hd_f11_breaks_n ⟨Nat.le_of_ble_eq_true rfl, Nat.le_of_ble_eq_true rfl⟩ (ci := 11) (q0 := 0) rfl rfl rfl hl.1 rfl (Nat.le_of_ble_eq_true rfl) dL_law_617 hf9 (fun H locs hP hD hS => ?_)
    obtain ⟨bc, hbc⟩ : ∃ X, X = bsetL bs Lc := ⟨_, rfl⟩
    rw [← hbc] at hP hD
    have t0 : bc 0 = bs 0 := by rw [hbc]; exact bsetL_at (x := (0, tLL (cy 0), bs 0, bs 0)) hnd (by rw [hLc]; exact List.mem_of_getElem? (i := 0) rfl)
    have t1 : bc 4 = bs 4 := by rw [hbc]; exact bsetL_at (x := (4, tSt (cy 4), bs 4, bs 4)) hnd (by rw [hLc]; exact List.mem_of_getElem? (i := 1) rfl)
    have t2 : bc 5 = bs 5 := by rw [hbc]; exact bsetL_at (x := (5, tW (cy 5), bs 5, bs 5)) hnd (by rw [hLc]; exact List.mem_of_getElem? (i := 2) rfl)
    have t3 : bc jl = bs jl := by rw [hbc]; exact bsetL_at (x := (jl, tLd ly, bs jl, bs jl)) hnd (by rw [hLc]; exact List.mem_of_getElem? (i := 3) rfl)
    have t4 : bc 7 = u7 := by rw [hbc]; exact bsetL_at (x := (7, tO (cy 7), bs 7, u7)) hnd (by rw [hLc]; exact List.mem_of_getElem? (i := 4) rfl)
    have t5 : bc 6 = u6 := by rw [hbc]; exact bsetL_at (x := (6, tH (cy 6), bs 6, u6)) hnd (by rw [hLc]; exact List.mem_of_getElem? (i := 5) rfl)
    have t6 : bc 8 = u8 := by rw [hbc]; exact bsetL_at (x := (8, tW (cy 8), bs 8, u8)) hnd (by rw [hLc]; exact List.mem_of_getElem? (i := 6) rfl)
    have E1 : ∀ j, (j ≠ 7 ∧ j ≠ 6 ∧ j ≠ 8) → bc j = bs j := by
      intro j hj
      by_cases q0 : j = 0
      · rw [q0]; exact t0
      by_cases q1 : j = 4
      · rw [q1]; exact t1
      by_cases q2 : j = 5
      · rw [q2]; exact t2
      by_cases q3 : j = jl
      · rw [q3]; exact t3
      rw [hbc]
      exact bsetL_ne (by rw [hLc]; show j ∉ ([0, 4, 5, jl, 7, 6, 8] : List Nat); simp only [List.mem_cons, List.not_mem_nil, or_false, not_or]; omega)
    refine lv_aload_n hx hb dL_law_620 rfl (lv_at hl 1 rfl) ?_
    refine ld1 C hS hl hi dL_law_621 dL_law_622 dL_law_623 dL_law_624 dL_law_625 ?_
    obtain ⟨um, hum⟩ : ∃ X : va_W, X = (cM (ad 46) (cy 46) tape len (nn m) sign lg clause clauses rd nxt wrg num txt mde dep lns opn opd st1 tp1 wd1 S fo x wi1 mo1 br1 w (nn c) kp1 bh1 far que qud onw mvp mvk isf sth drx im imF imX imM) := ⟨_, rfl⟩
    have bm : bc 46 = _ := (E1 46 (by omega)).trans b46
    obtain ⟨Lm, hLm⟩ : ∃ X : List (Nat × List (ClassId × FieldType) × va_W × va_W), X = [(46, tM (cy 46), bc 46, um)] := ⟨_, rfl⟩
    have hnm : (Lm.map Prod.fst).Nodup := by rw [hLm]; show ([46] : List Nat).Nodup; decide
    refine mbQ_i (As := [.int (xs (i + 1))]) (rest := [.int v]) Lm S9 k0 hP hD hS hA (c12_breaks (l := l) (D := D) (ad := (ad 46)) (cy := (cy 46)) (z_tape := tape) (z_taped := len) (z_rules := (nn m)) (z_sign := sign) (z_length := lg) (z_clause := clause) (z_clauses := clauses) (z_read := rd) (z_next := nxt) (z_wrong := wrg) (z_number := num) (z_text := txt) (z_made := mde) (z_deep := dep) (z_lines := lns) (z_open := opn) (z_opened := opd) (z_stack := stk) (z_top := tp) (z_word := wd) (z_said := S) (z_force := fo) (z_x := x) (z_will := wil) (z_moved := mov) (z_broke := brk) (z_wasSaid := w) (z_undone := (nn c)) (z_kept := kpt) (z_breakHour := bhr) (z_far := far) (z_queue := que) (z_queued := qud) (z_isOnWay := onw) (z_movePerson := mvp) (z_moveKind := mvk) (z_isFit := isf) (z_standThen := sth) (z_drawX := drx) (z_images := im) (z_imageForce := imF) (z_imageX := imX) (z_isMade := imM) (a1 := (xs (i + 1))) (o_ret := v) (o_stack := st1) (o_top := tp1) (o_word := wd1) (o_said := S) (o_will := wi1) (o_moved := mo1) (o_broke := br1) (o_kept := kp1) (o_breakHour := bh1) hm) hnm (by rw [hLm]; exact List.forall_mem_cons.mpr ⟨show 46 < N by omega, fun _ h9 => absurd h9 List.not_mem_nil⟩) (by rw [hLm]; exact List.forall_mem_cons.mpr ⟨kM, fun _ h9 => absurd h9 List.not_mem_nil⟩) (by rw [hLm]; exact List.forall_mem_cons.mpr ⟨rfl, fun _ h9 => absurd h9 List.not_mem_nil⟩) (by rw [hLm]; rfl) (by rw [hLm]; simp only [List.flatMap_cons, List.flatMap_nil, List.append_nil, List.append_assoc]; rw [bm]) (by rw [hLm]; simp only [List.flatMap_cons, List.flatMap_nil, List.append_nil, List.append_assoc]; rw [hum]) (gdV mw_45_0 mw_45_1 mw_45_2 mw_1_5 mw_45_3) rfl rfl hd_f12_breaks ⟨Nat.le_of_ble_eq_true rfl, Nat.le_of_ble_eq_true rfl⟩ (ci := 12) (q0 := 0) rfl rfl rfl hl.1 rfl (Nat.le_of_ble_eq_true rfl) dL_law_626 hf9 (fun H locs hP hD hS => ?_)
    obtain ⟨bn, hbn⟩ : ∃ X, X = bsetL bc Lm := ⟨_, rfl⟩
    rw [← hbn] at hP hD
    have tm : bn 46 = um := by rw [hbn]; exact bsetL_at (x := (46, tM (cy 46), bc 46, um)) hnm (by rw [hLm]; exact List.mem_of_getElem? (i := 0) rfl)
    have E2 : ∀ j, j ≠ 46 → bn j = bc j := by
      intro j hj
      rw [hbn]
      exact bsetL_ne (by rw [hLm]; show j ∉ ([46] : List Nat); simp only [List.mem_cons, List.not_mem_nil, or_false]; exact hj)
    have E : ∀ j, (j ≠ 46 ∧ j ≠ 7 ∧ j ≠ 6 ∧ j ≠ 8) → bn j = bs j := fun j hj => (E2 j (by omega)).trans (E1 j (by omega))
    have s4 : bn 7 = u7 := (E2 _ (by omega)).trans t4
    have s5 : bn 6 = u6 := (E2 _ (by omega)).trans t5
    have s6 : bn 8 = u8 := (E2 _ (by omega)).trans t6
    refine lv_icmp_eq (tgt := 1115) hx hb dL_law_629 rfl (fun _ => ?_) (fun c8 => absurd rfl c8)
    refine W.widen (k := cells + 8) (n := slots + 13200) (Nat.le_add_right _ _) (Nat.le_add_right _ _) ?_
    have EL : ∀ j, 47 ≤ j → j < N → bn j = bs j := fun j h1 h2 => E j (by omega)
    exact kk N bn H locs ⟨m, c, nx, tn, R, P, (lh 0), rls, bytes, len, fo, x, notes, nh, nr, nm, hour, broken, rung, grip, want, slips, worn, tape, sign, clause, clauses, S, w, im, imF, imX, imM, hN, (E 0 (by omega)).trans b0, hBT.congr (E 1 (by omega)), (E 2 (by omega)).trans b2, hBRR.congr (E 3 (by omega)), hBN.congr (E 4 (by omega)), (E 5 (by omega)).trans b5, ⟨_, _, _, _, (s5.trans hu6)⟩, ⟨_, _, _, _, _, _, _, _, _, _, _, _, (s4.trans hu7)⟩, ⟨_, _, _, _, _, _, _, _, (s6.trans hu8)⟩, hBP.congr (E 9 (by omega)), hBS.congr (E 10 (by omega)), hB11.congr (E 11 (by omega)), hSc.congr (Nat.le_refl _) EL, hPs.congr (fun k hk => E _ (by omega)), hIm.congr (Nat.le_refl _) (Nat.le_refl _) (fun k hk => E _ (by omega)) EL, hRu.congr (fun j hj => E _ (by omega)) hm6, ⟨_, _, _, _, _, _, _, _, _, _, _, _, _, _, _, _, _, _, _, _, _, _, _, _, _, _, _, _, tm.trans hum⟩, hTP, hm6, hof, hox⟩ hP hD hS
  · skip
    obtain ⟨rh, ry, rnc, rco, rns, rse, rnt, rte, rsk, rtp, rcs, hrl, bru, kru, hr1, hr2, hr3⟩ := hRu.1 f hfm
    have hRE := rEv hr1 hr2 hr3 (show f < 6 by omega)
    obtain ⟨v, ob1, oh1, hb1, wl1, de1, wo1, h1, b9, rg1, gr1, wt1, sl1, wn1, sk1, tq1, q1, st1, tp1, wd1, wi1, mo1, br1, kp1, bh1, hc, hm⟩ := r_breaks_r (rls := rls) (rc := nn m) (fo := fo) (hb := hbr) (wl := hwl) (de := hde) (th := th) (tb := tb) (tr := tr) (tg := tg) (tw := tw) (ts := ts) (tk := tk) (sign := sign) (clause := clause) (clauses := clauses) (st := stk) (tp := tp) (wd := wd) (wil := wil) (mov := mov) (bk := brk) (kept := kpt) (qp := tq) (qn := lh 0) (ob := o1) (oh := o2) (bh := bhr) (wo := hwo) (stack := rsk) (top := rtp) hI hW hL hhr (f := f) (by omega) hfo (by rw [hfo]; exact nle (by omega) (by omega) (by omega)) hrl (hfo ▸ hRE) (xs (i + 1))
    refine lv_aload_n hx hb dL_law_611 rfl (lv_at hl 2 rfl) ?_
    refine ld1 C hS hl hi dL_law_612 dL_law_613 dL_law_614 dL_law_615 dL_law_616 ?_
    obtain ⟨u7, hu7⟩ : ∃ X : va_W, X = cO (ad 7) (cy 7) ob1 oh1 o3 o4 o5 o6 o7 o8 o9 oa ob ((ad 6) 0) ((ad 8) 0) ocr := ⟨_, rfl⟩
    obtain ⟨u6, hu6⟩ : ∃ X : va_W, X = cH (ad 6) (cy 6) hb1 wl1 de1 wo1 := ⟨_, rfl⟩
    obtain ⟨u8, hu8⟩ : ∃ X : va_W, X = cW (ad 8) (cy 8) q1 h1 b9 rg1 gr1 wt1 sl1 wn1 := ⟨_, rfl⟩
    obtain ⟨u40f, hu40f⟩ : ∃ X : va_W, X = cRu rh ry rnc rco rns rse rnt rte sk1 tq1 := ⟨_, rfl⟩
    obtain ⟨Lc, hLc⟩ : ∃ X : List (Nat × List (ClassId × FieldType) × va_W × va_W), X = [(0, tLL (cy 0), bs 0, bs 0), (4, tSt (cy 4), bs 4, bs 4), (5, tW (cy 5), bs 5, bs 5), (jl, tLd ly, bs jl, bs jl), (7, tO (cy 7), bs 7, u7), (6, tH (cy 6), bs 6, u6), (8, tW (cy 8), bs 8, u8), ((40 + f), tRu ry, bs (40 + f), u40f)] := ⟨_, rfl⟩
    have hnd : (Lc.map Prod.fst).Nodup := by rw [hLc]; show ([0, 4, 5, jl, 7, 6, 8, (40 + f)] : List Nat).Nodup; simp only [List.nodup_cons, List.mem_cons, List.not_mem_nil, or_false, not_or, List.nodup_nil, and_true, not_false_eq_true] <;> omega
    have hlt : ∀ x ∈ Lc, x.1 < N := by rw [hLc]; exact List.forall_mem_cons.mpr ⟨show 0 < N by omega, List.forall_mem_cons.mpr ⟨show 4 < N by omega, List.forall_mem_cons.mpr ⟨show 5 < N by omega, List.forall_mem_cons.mpr ⟨show jl < N by omega, List.forall_mem_cons.mpr ⟨show 7 < N by omega, List.forall_mem_cons.mpr ⟨show 6 < N by omega, List.forall_mem_cons.mpr ⟨show 8 < N by omega, List.forall_mem_cons.mpr ⟨show (40 + f) < N by omega, fun _ h9 => absurd h9 List.not_mem_nil⟩⟩⟩⟩⟩⟩⟩⟩
    have hkL : ∀ x ∈ Lc, va_K D vwCl x.2.1 s := by rw [hLc]; exact List.forall_mem_cons.mpr ⟨kLL, List.forall_mem_cons.mpr ⟨kS4, List.forall_mem_cons.mpr ⟨kW5, List.forall_mem_cons.mpr ⟨kl, List.forall_mem_cons.mpr ⟨kO, List.forall_mem_cons.mpr ⟨kH, List.forall_mem_cons.mpr ⟨kW8, List.forall_mem_cons.mpr ⟨kru, fun _ h9 => absurd h9 List.not_mem_nil⟩⟩⟩⟩⟩⟩⟩⟩
    have hbL : ∀ x ∈ Lc, bs x.1 = x.2.2.1 := by rw [hLc]; exact List.forall_mem_cons.mpr ⟨rfl, List.forall_mem_cons.mpr ⟨rfl, List.forall_mem_cons.mpr ⟨rfl, List.forall_mem_cons.mpr ⟨rfl, List.forall_mem_cons.mpr ⟨rfl, List.forall_mem_cons.mpr ⟨rfl, List.forall_mem_cons.mpr ⟨rfl, List.forall_mem_cons.mpr ⟨rfl, fun _ h9 => absurd h9 List.not_mem_nil⟩⟩⟩⟩⟩⟩⟩⟩
    refine mbQ_i (As := [.int (xs (i + 1))]) (rest := []) Lc S9 k0 hP hD hS hA (c11_breaks_r (l := l) (D := D) (ad_this := (ad 0)) (cy_this := (cy 0)) (z_this_tape := (ad 1 0)) (z_this_ladderReader := (ad 2 0)) (z_this_ruleReader := (ad 3 0)) (z_this_rules := rls) (z_this_ruleCount := (nn m)) (z_this_images := ims) (z_this_past := pst) (z_this_pastNext := (nn nx)) (z_this_pastCount := (nn c)) (z_this_hours := (ad 6 0)) (z_this_paths := (ad 9 0)) (z_this_siege := (ad 10 0)) (ad_this_now := (ad 4)) (cy_this_now := (cy 4)) (z_this_now_force := fo) (z_this_now_x := x) (z_this_now_notes := notes) (z_this_now_noteHour := nh) (z_this_now_noteRung := nr) (z_this_now_noteMany := nm) (z_this_now_made := md) (ad_this_now_world := (ad 5)) (cy_this_now_world := (cy 5)) (z_this_now_world_hour := hour) (z_this_now_world_broken := broken) (z_this_now_world_rung := rung) (z_this_now_world_grip := grip) (z_this_now_world_want := want) (z_this_now_world_slips := slips) (z_this_now_world_worn := worn) (ad_this_now_world_ladder := lh) (cy_this_now_world_ladder := ly) (z_this_now_world_ladder_rungs := ru) (z_this_now_world_ladder_people := pe) (z_this_now_world_ladder_startBroken := sb) (z_this_now_world_ladder_room := ro) (z_this_now_world_ladder_strength := str) (z_this_now_world_ladder_weight := wt) (z_this_now_world_ladder_told := tol) (z_this_now_world_ladder_startRung := srr) (z_this_now_world_ladder_startWant := sww) (ad_this_outlook := (ad 7)) (cy_this_outlook := (cy 7)) (z_this_outlook_brokenRung := o1) (z_this_outlook_brokenHour := o2) (z_this_outlook_mendedRung := o3) (z_this_outlook_mendedHour := o4) (z_this_outlook_fittingCount := o5) (z_this_outlook_firstFitting := o6) (z_this_outlook_partingRung := o7) (z_this_outlook_mostAlike := o8) (z_this_outlook_windSlips := o9) (z_this_outlook_windFalls := oa) (z_this_outlook_windX := ob) (z_this_outlook_crowds := ocr) (ad_this_outlook_hours := (ad 6)) (cy_this_outlook_hours := (cy 6)) (z_this_outlook_hours_brokenRung := hbr) (z_this_outlook_hours_will := hwl) (z_this_outlook_hours_deed := hde) (z_this_outlook_hours_words := hwo) (ad_this_outlook_trial := (ad 8)) (cy_this_outlook_trial := (cy 8)) (z_this_outlook_trial_ladder := tq) (z_this_outlook_trial_hour := th) (z_this_outlook_trial_broken := tb) (z_this_outlook_trial_rung := tr) (z_this_outlook_trial_grip := tg) (z_this_outlook_trial_want := tw) (z_this_outlook_trial_slips := ts) (z_this_outlook_trial_worn := tk) (ad_this_rulesAt := rh) (cy_this_rulesAt := ry) (n_this_rulesAt_code := rnc) (z_this_rulesAt_code := rco) (n_this_rulesAt_sumEnd := rns) (z_this_rulesAt_sumEnd := rse) (n_this_rulesAt_testEnd := rnt) (z_this_rulesAt_testEnd := rte) (z_this_rulesAt_stack := rsk) (z_this_rulesAt_top := rtp) (a1 := (xs (i + 1))) (o_ret := v) (o_this_outlook_brokenRung := ob1) (o_this_outlook_brokenHour := oh1) (o_this_outlook_hours_brokenRung := hb1) (o_this_outlook_hours_will := wl1) (o_this_outlook_hours_deed := de1) (o_this_outlook_hours_words := wo1) (o_this_outlook_trial_hour := h1) (o_this_outlook_trial_broken := b9) (o_this_outlook_trial_rung := rg1) (o_this_outlook_trial_grip := gr1) (o_this_outlook_trial_want := wt1) (o_this_outlook_trial_slips := sl1) (o_this_outlook_trial_worn := wn1) (o_this_rulesAt_stack := sk1) (o_this_rulesAt_top := tq1) (o_link_this_outlook_trial := q1) hc) hnd hlt hkL hbL (by rw [hLc]; rfl) (by rw [hLc]; simp only [List.flatMap_cons, List.flatMap_nil, List.append_nil, List.append_assoc]; rw [b0, b4, b5, bl, b7, b6, b8, bru]) (by rw [hLc]; simp only [List.flatMap_cons, List.flatMap_nil, List.append_nil, List.append_assoc]; rw [b0, b4, b5, bl, hu7, hu6, hu8, hu40f]) (gdV mw_44_9 mw_44_10 mw_44_11 mw_1_2 mw_44_12) rfl rfl hd_f11_breaks_r ⟨Nat.le_of_ble_eq_true rfl, Nat.le_of_ble_eq_true rfl⟩ (ci := 11) (q0 := 0) rfl rfl rfl hl.1 rfl (Nat.le_of_ble_eq_true rfl) dL_law_617 hf9 (fun H locs hP hD hS => ?_)
    obtain ⟨bc, hbc⟩ : ∃ X, X = bsetL bs Lc := ⟨_, rfl⟩
    rw [← hbc] at hP hD
    have t0 : bc 0 = bs 0 := by rw [hbc]; exact bsetL_at (x := (0, tLL (cy 0), bs 0, bs 0)) hnd (by rw [hLc]; exact List.mem_of_getElem? (i := 0) rfl)
    have t1 : bc 4 = bs 4 := by rw [hbc]; exact bsetL_at (x := (4, tSt (cy 4), bs 4, bs 4)) hnd (by rw [hLc]; exact List.mem_of_getElem? (i := 1) rfl)
    have t2 : bc 5 = bs 5 := by rw [hbc]; exact bsetL_at (x := (5, tW (cy 5), bs 5, bs 5)) hnd (by rw [hLc]; exact List.mem_of_getElem? (i := 2) rfl)
    have t3 : bc jl = bs jl := by rw [hbc]; exact bsetL_at (x := (jl, tLd ly, bs jl, bs jl)) hnd (by rw [hLc]; exact List.mem_of_getElem? (i := 3) rfl)
    have t4 : bc 7 = u7 := by rw [hbc]; exact bsetL_at (x := (7, tO (cy 7), bs 7, u7)) hnd (by rw [hLc]; exact List.mem_of_getElem? (i := 4) rfl)
    have t5 : bc 6 = u6 := by rw [hbc]; exact bsetL_at (x := (6, tH (cy 6), bs 6, u6)) hnd (by rw [hLc]; exact List.mem_of_getElem? (i := 5) rfl)
    have t6 : bc 8 = u8 := by rw [hbc]; exact bsetL_at (x := (8, tW (cy 8), bs 8, u8)) hnd (by rw [hLc]; exact List.mem_of_getElem? (i := 6) rfl)
    have t7 : bc (40 + f) = u40f := by rw [hbc]; exact bsetL_at (x := ((40 + f), tRu ry, bs (40 + f), u40f)) hnd (by rw [hLc]; exact List.mem_of_getElem? (i := 7) rfl)
    have E1 : ∀ j, (j ≠ 7 ∧ j ≠ 6 ∧ j ≠ 8 ∧ j ≠ (40 + f)) → bc j = bs j := by
      intro j hj
      by_cases q0 : j = 0
      · rw [q0]; exact t0
      by_cases q1 : j = 4
      · rw [q1]; exact t1
      by_cases q2 : j = 5
      · rw [q2]; exact t2
      by_cases q3 : j = jl
      · rw [q3]; exact t3
      rw [hbc]
      exact bsetL_ne (by rw [hLc]; show j ∉ ([0, 4, 5, jl, 7, 6, 8, (40 + f)] : List Nat); simp only [List.mem_cons, List.not_mem_nil, or_false, not_or]; omega)
    refine lv_aload_n hx hb dL_law_620 rfl (lv_at hl 1 rfl) ?_
    refine ld1 C hS hl hi dL_law_621 dL_law_622 dL_law_623 dL_law_624 dL_law_625 ?_
    obtain ⟨um, hum⟩ : ∃ X : va_W, X = (cM (ad 46) (cy 46) tape len (nn m) sign lg clause clauses rd nxt wrg num txt mde dep lns opn opd st1 tp1 wd1 S fo x wi1 mo1 br1 w (nn c) kp1 bh1 far que qud onw mvp mvk isf sth drx im imF imX imM) := ⟨_, rfl⟩
    have bm : bc 46 = _ := (E1 46 (by omega)).trans b46
    obtain ⟨Lm, hLm⟩ : ∃ X : List (Nat × List (ClassId × FieldType) × va_W × va_W), X = [(46, tM (cy 46), bc 46, um)] := ⟨_, rfl⟩
    have hnm : (Lm.map Prod.fst).Nodup := by rw [hLm]; show ([46] : List Nat).Nodup; decide
    refine mbQ_i (As := [.int (xs (i + 1))]) (rest := [.int v]) Lm S9 k0 hP hD hS hA (c12_breaks (l := l) (D := D) (ad := (ad 46)) (cy := (cy 46)) (z_tape := tape) (z_taped := len) (z_rules := (nn m)) (z_sign := sign) (z_length := lg) (z_clause := clause) (z_clauses := clauses) (z_read := rd) (z_next := nxt) (z_wrong := wrg) (z_number := num) (z_text := txt) (z_made := mde) (z_deep := dep) (z_lines := lns) (z_open := opn) (z_opened := opd) (z_stack := stk) (z_top := tp) (z_word := wd) (z_said := S) (z_force := fo) (z_x := x) (z_will := wil) (z_moved := mov) (z_broke := brk) (z_wasSaid := w) (z_undone := (nn c)) (z_kept := kpt) (z_breakHour := bhr) (z_far := far) (z_queue := que) (z_queued := qud) (z_isOnWay := onw) (z_movePerson := mvp) (z_moveKind := mvk) (z_isFit := isf) (z_standThen := sth) (z_drawX := drx) (z_images := im) (z_imageForce := imF) (z_imageX := imX) (z_isMade := imM) (a1 := (xs (i + 1))) (o_ret := v) (o_stack := st1) (o_top := tp1) (o_word := wd1) (o_said := S) (o_will := wi1) (o_moved := mo1) (o_broke := br1) (o_kept := kp1) (o_breakHour := bh1) hm) hnm (by rw [hLm]; exact List.forall_mem_cons.mpr ⟨show 46 < N by omega, fun _ h9 => absurd h9 List.not_mem_nil⟩) (by rw [hLm]; exact List.forall_mem_cons.mpr ⟨kM, fun _ h9 => absurd h9 List.not_mem_nil⟩) (by rw [hLm]; exact List.forall_mem_cons.mpr ⟨rfl, fun _ h9 => absurd h9 List.not_mem_nil⟩) (by rw [hLm]; rfl) (by rw [hLm]; simp only [List.flatMap_cons, List.flatMap_nil, List.append_nil, List.append_assoc]; rw [bm]) (by rw [hLm]; simp only [List.flatMap_cons, List.flatMap_nil, List.append_nil, List.append_assoc]; rw [hum]) (gdV mw_45_0 mw_45_1 mw_45_2 mw_1_5 mw_45_3) rfl rfl hd_f12_breaks ⟨Nat.le_of_ble_eq_true rfl, Nat.le_of_ble_eq_true rfl⟩ (ci := 12) (q0 := 0) rfl rfl rfl hl.1 rfl (Nat.le_of_ble_eq_true rfl) dL_law_626 hf9 (fun H locs hP hD hS => ?_)
    obtain ⟨bn, hbn⟩ : ∃ X, X = bsetL bc Lm := ⟨_, rfl⟩
    rw [← hbn] at hP hD
    have tm : bn 46 = um := by rw [hbn]; exact bsetL_at (x := (46, tM (cy 46), bc 46, um)) hnm (by rw [hLm]; exact List.mem_of_getElem? (i := 0) rfl)
    have E2 : ∀ j, j ≠ 46 → bn j = bc j := by
      intro j hj
      rw [hbn]
      exact bsetL_ne (by rw [hLm]; show j ∉ ([46] : List Nat); simp only [List.mem_cons, List.not_mem_nil, or_false]; exact hj)
    have E : ∀ j, (j ≠ 46 ∧ j ≠ 7 ∧ j ≠ 6 ∧ j ≠ 8 ∧ j ≠ (40 + f)) → bn j = bs j := fun j hj => (E2 j (by omega)).trans (E1 j (by omega))
    have s4 : bn 7 = u7 := (E2 _ (by omega)).trans t4
    have s5 : bn 6 = u6 := (E2 _ (by omega)).trans t5
    have s6 : bn 8 = u8 := (E2 _ (by omega)).trans t6
    have s7 : bn (40 + f) = u40f := (E2 _ (by omega)).trans t7
    refine lv_icmp_eq (tgt := 1115) hx hb dL_law_629 rfl (fun _ => ?_) (fun c8 => absurd rfl c8)
    refine W.widen (k := cells + 8) (n := slots + 13200) (Nat.le_add_right _ _) (Nat.le_add_right _ _) ?_
    have EL : ∀ j, 47 ≤ j → j < N → bn j = bs j := fun j h1 h2 => E j (by omega)
    exact kk N bn H locs ⟨m, c, nx, tn, R, P, (lh 0), rls, bytes, len, fo, x, notes, nh, nr, nm, hour, broken, rung, grip, want, slips, worn, tape, sign, clause, clauses, S, w, im, imF, imX, imM, hN, (E 0 (by omega)).trans b0, hBT.congr (E 1 (by omega)), (E 2 (by omega)).trans b2, hBRR.congr (E 3 (by omega)), hBN.congr (E 4 (by omega)), (E 5 (by omega)).trans b5, ⟨_, _, _, _, (s5.trans hu6)⟩, ⟨_, _, _, _, _, _, _, _, _, _, _, _, (s4.trans hu7)⟩, ⟨_, _, _, _, _, _, _, _, (s6.trans hu8)⟩, hBP.congr (E 9 (by omega)), hBS.congr (E 10 (by omega)), hB11.congr (E 11 (by omega)), hSc.congr (Nat.le_refl _) EL, hPs.congr (fun k hk => E _ (by omega)), hIm.congr (Nat.le_refl _) (Nat.le_refl _) (fun k hk => E _ (by omega)) EL, hRu.run hm6 hfm hrl (s7.trans hu40f) kru hr1 hr2 hr3 (fun j h1 h2 => E _ (by omega)), ⟨_, _, _, _, _, _, _, _, _, _, _, _, _, _, _, _, _, _, _, _, _, _, _, _, _, _, _, _, tm.trans hum⟩, hTP, hm6, hof, hox⟩ hP hD hS

set_option maxHeartbeats 8000000 in
set_option maxRecDepth 100000 in
theorem k_mending (C : Cx p m9 c9 s A D adK adV ad cy ims pst b L xs) (hi : i + 6 ≤ L) (T : Top D s ad cy ims pst N bs) (hP : va_P D vwCl (bW N bs) H) (hD : va_D A (bW N bs)) (hS : va_S A s.heap H locs) (hl : lv_has ls 4 (lvL ad b i)) (hf : cells + 8 ≤ 600000 ∧ slots + 13200 ≤ 7302250)
    (kk : ∀ (N : Nat) (bs : Nat → va_W) (H : Heap) (locs : List Loc), Top D s ad cy ims pst N bs → va_P D vwCl (bW N bs) H → va_D A (bW N bs) → va_S A s.heap H locs → W p l e room_1 s m9 #[.ref b] below meth c9 H locs (cells + 8) (slots + 13200) Q (F0 m9 1115 ls [])) : W p l e room_1 s m9 #[.ref b] below meth c9 H locs cells slots Q (F0 m9 723 ls []) := by
  obtain ⟨m, c, nx, tn, R, P, A0, rls, bytes, len, fo, x, notes, nh, nr, nm, hour, broken, rung, grip, want, slips, worn, tape, sign, clause, clauses, S, w, im, imF, imX, imM, hN, b0, hBT, b2, hBRR, hBN, b5, hBH, hBO, hB8, hBP, hBS, hB11, hSc, hPs, hIm, hRu, hBM, hTP, hm6, hof, hox⟩ := T
  obtain ⟨S9, hA, hbA, hbl, hX, hL9, hF, hE9, hV9⟩ := id C
  obtain ⟨hx, hb, hml, hown, hts⟩ := id S9
  obtain ⟨k0, kLL, kTp, kRR, kS4, kW5, kH, kO, kW8, kW11, kM, kIm, kPs⟩ := id hF
  have hf9 : cells ≤ room_1.cells ∧ slots ≤ room_1.slots := ⟨Nat.le_trans (Nat.le_add_right _ _) hf.1, Nat.le_trans (Nat.le_add_right _ _) hf.2⟩
  obtain ⟨lg, rd, nxt, wrg, num, txt, mde, dep, lns, opn, opd, stk, tp, wd, wil, mov, brk, kpt, bhr, far, que, qud, onw, mvp, mvk, isf, sth, drx, b46⟩ := id hBM
  obtain ⟨jl, lh, ly, ru, pe, sb, ro, str, wt, tol, srr, sww, g1, g2, g3, bl, kl, hI, hW, hL, hWT, hBg, hhr, hNo⟩ := id hSc
  subst g3
  obtain ⟨md, b4⟩ := id hBN
  obtain ⟨o1, o2, o3, o4, o5, o6, o7, o8, o9, oa, ob, ocr, b7⟩ := id hBO
  obtain ⟨hbr, hwl, hde, hwo, b6⟩ := id hBH
  obtain ⟨tq, th, tb, tr, tg, tw, ts, tk, b8⟩ := id hB8
  rcases id hof with hfo | ⟨f, hfm, hfo⟩
  · skip
    obtain ⟨v, ob1, oh1, om1, on1, hb1, wl1, de1, h1, b9, rg1, gr1, wt1, sl1, wn1, st1, tp1, wd1, wi1, mo1, br1, kp1, bh1, hc, hm⟩ := r_mending_n (rls := rls) (rc := nn m) (fo := fo) (hb := hbr) (wl := hwl) (de := hde) (th := th) (tb := tb) (tr := tr) (tg := tg) (tw := tw) (ts := ts) (tk := tk) (sign := sign) (clause := clause) (clauses := clauses) (st := stk) (tp := tp) (wd := wd) (wil := wil) (mov := mov) (bk := brk) (kept := kpt) (ob := o1) (oh := o2) (om := o3) (on := o4) (bh := bhr) hI hW hL hhr (by rw [hfo]; decide) (xs (i + 1))
    refine lv_aload_n hx hb dL_law_723 rfl (lv_at hl 2 rfl) ?_
    refine ld1 C hS hl hi dL_law_724 dL_law_725 dL_law_726 dL_law_727 dL_law_728 ?_
    obtain ⟨Lo, hLo⟩ : ∃ X : List (Nat × List (ClassId × FieldType) × va_W × va_W), X = [(0, tLL (cy 0), bs 0, bs 0), (4, tSt (cy 4), bs 4, bs 4), (5, tW (cy 5), bs 5, bs 5), (jl, tLd ly, bs jl, bs jl), (7, tO (cy 7), bs 7, bs 7), (6, tH (cy 6), bs 6, bs 6), (8, tW (cy 8), bs 8, bs 8)] := ⟨_, rfl⟩
    have hmo : Lo.map Prod.fst = [0, 4, 5, jl, 7, 6, 8] := by rw [hLo]; rfl
    have hno : (Lo.map Prod.fst).Nodup := by rw [hmo]; simp only [List.nodup_cons, List.mem_cons, List.not_mem_nil, or_false, not_or, List.nodup_nil, and_true, not_false_eq_true] <;> omega
    have hlt : ∀ x ∈ Lo, x.1 < N := by rw [hLo]; exact List.forall_mem_cons.mpr ⟨show 0 < N by omega, List.forall_mem_cons.mpr ⟨show 4 < N by omega, List.forall_mem_cons.mpr ⟨show 5 < N by omega, List.forall_mem_cons.mpr ⟨show jl < N by omega, List.forall_mem_cons.mpr ⟨show 7 < N by omega, List.forall_mem_cons.mpr ⟨show 6 < N by omega, List.forall_mem_cons.mpr ⟨show 8 < N by omega, fun _ h9 => absurd h9 List.not_mem_nil⟩⟩⟩⟩⟩⟩⟩
    have hkL : ∀ x ∈ Lo, va_K D vwCl x.2.1 s := by rw [hLo]; exact List.forall_mem_cons.mpr ⟨kLL, List.forall_mem_cons.mpr ⟨kS4, List.forall_mem_cons.mpr ⟨kW5, List.forall_mem_cons.mpr ⟨kl, List.forall_mem_cons.mpr ⟨kO, List.forall_mem_cons.mpr ⟨kH, List.forall_mem_cons.mpr ⟨kW8, fun _ h9 => absurd h9 List.not_mem_nil⟩⟩⟩⟩⟩⟩⟩
    have hbL : ∀ x ∈ Lo, bs x.1 = x.2.2.1 := by rw [hLo]; exact List.forall_mem_cons.mpr ⟨rfl, List.forall_mem_cons.mpr ⟨rfl, List.forall_mem_cons.mpr ⟨rfl, List.forall_mem_cons.mpr ⟨rfl, List.forall_mem_cons.mpr ⟨rfl, List.forall_mem_cons.mpr ⟨rfl, List.forall_mem_cons.mpr ⟨rfl, fun _ h9 => absurd h9 List.not_mem_nil⟩⟩⟩⟩⟩⟩⟩
    refine mbQ_ix (As := [.int (xs (i + 1))]) (rest := []) Lo S9 k0 hP hD hS hA (c11_mending_n (l := l) (D := D) (ad_this := (ad 0)) (cy_this := (cy 0)) (z_this_tape := (ad 1 0)) (z_this_ladderReader := (ad 2 0)) (z_this_ruleReader := (ad 3 0)) (z_this_rules := rls) (z_this_ruleCount := (nn m)) (z_this_images := ims) (z_this_past := pst) (z_this_pastNext := (nn nx)) (z_this_pastCount := (nn c)) (z_this_hours := (ad 6 0)) (z_this_paths := (ad 9 0)) (z_this_siege := (ad 10 0)) (ad_this_now := (ad 4)) (cy_this_now := (cy 4)) (z_this_now_force := fo) (z_this_now_x := x) (z_this_now_notes := notes) (z_this_now_noteHour := nh) (z_this_now_noteRung := nr) (z_this_now_noteMany := nm) (z_this_now_made := md) (ad_this_now_world := (ad 5)) (cy_this_now_world := (cy 5)) (z_this_now_world_hour := hour) (z_this_now_world_broken := broken) (z_this_now_world_rung := rung) (z_this_now_world_grip := grip) (z_this_now_world_want := want) (z_this_now_world_slips := slips) (z_this_now_world_worn := worn) (ad_this_now_world_ladder := lh) (cy_this_now_world_ladder := ly) (z_this_now_world_ladder_rungs := ru) (z_this_now_world_ladder_people := pe) (z_this_now_world_ladder_startBroken := sb) (z_this_now_world_ladder_room := ro) (z_this_now_world_ladder_strength := str) (z_this_now_world_ladder_weight := wt) (z_this_now_world_ladder_told := tol) (z_this_now_world_ladder_startRung := srr) (z_this_now_world_ladder_startWant := sww) (ad_this_outlook := (ad 7)) (cy_this_outlook := (cy 7)) (z_this_outlook_brokenRung := o1) (z_this_outlook_brokenHour := o2) (z_this_outlook_mendedRung := o3) (z_this_outlook_mendedHour := o4) (z_this_outlook_fittingCount := o5) (z_this_outlook_firstFitting := o6) (z_this_outlook_partingRung := o7) (z_this_outlook_mostAlike := o8) (z_this_outlook_windSlips := o9) (z_this_outlook_windFalls := oa) (z_this_outlook_windX := ob) (z_this_outlook_crowds := ocr) (ad_this_outlook_hours := (ad 6)) (cy_this_outlook_hours := (cy 6)) (z_this_outlook_hours_brokenRung := hbr) (z_this_outlook_hours_will := hwl) (z_this_outlook_hours_deed := hde) (z_this_outlook_hours_words := hwo) (ad_this_outlook_trial := (ad 8)) (cy_this_outlook_trial := (cy 8)) (z_this_outlook_trial_ladder := tq) (z_this_outlook_trial_hour := th) (z_this_outlook_trial_broken := tb) (z_this_outlook_trial_rung := tr) (z_this_outlook_trial_grip := tg) (z_this_outlook_trial_want := tw) (z_this_outlook_trial_slips := ts) (z_this_outlook_trial_worn := tk) (a1 := (xs (i + 1))) (o_ret := v) (o_this_outlook_brokenRung := ob1) (o_this_outlook_brokenHour := oh1) (o_this_outlook_mendedRung := om1) (o_this_outlook_mendedHour := on1) (o_this_outlook_hours_brokenRung := hb1) (o_this_outlook_hours_will := wl1) (o_this_outlook_hours_deed := de1) (o_this_outlook_trial_hour := h1) (o_this_outlook_trial_broken := b9) (o_this_outlook_trial_rung := rg1) (o_this_outlook_trial_grip := gr1) (o_this_outlook_trial_want := wt1) (o_this_outlook_trial_slips := sl1) (o_this_outlook_trial_worn := wn1) hc) hno hlt hkL hbL (by rw [hLo]; rfl) (by rw [hLo]; simp only [List.flatMap_cons, List.flatMap_nil, List.append_nil, List.append_assoc]; rw [b0, b4, b5, bl, b7, b6, b8]) (gdV mw_51_18 mw_51_19 mw_51_20 mw_1_2 mw_51_21) rfl rfl hd_f11_mending_n ⟨Nat.le_of_ble_eq_true rfl, Nat.le_of_ble_eq_true rfl⟩ (ci := 11) (q0 := 0) rfl rfl rfl hl.1 rfl (Nat.le_of_ble_eq_true rfl) dL_law_729 hf9 (fun kx H locs  hcv hS => ?_)
    obtain ⟨u7, hu7⟩ : ∃ X : va_W, X = cO (ad 7) (cy 7) ob1 oh1 om1 on1 o5 o6 o7 o8 o9 oa ob ((ad 6) 0) ((ad 8) 0) ocr := ⟨_, rfl⟩
    obtain ⟨u6, hu6⟩ : ∃ X : va_W, X = cH (ad 6) (cy 6) hb1 wl1 de1 hwo := ⟨_, rfl⟩
    obtain ⟨u8, hu8⟩ : ∃ X : va_W, X = cW (ad 8) (cy 8) kx h1 b9 rg1 gr1 wt1 sl1 wn1 := ⟨_, rfl⟩
    obtain ⟨Lc, hLc⟩ : ∃ X : List (Nat × List (ClassId × FieldType) × va_W × va_W), X = [(0, tLL (cy 0), bs 0, bs 0), (4, tSt (cy 4), bs 4, bs 4), (5, tW (cy 5), bs 5, bs 5), (jl, tLd ly, bs jl, bs jl), (7, tO (cy 7), bs 7, u7), (6, tH (cy 6), bs 6, u6), (8, tW (cy 8), bs 8, u8)] := ⟨_, rfl⟩
    have hmc : Lc.map Prod.fst = [0, 4, 5, jl, 7, 6, 8] := by rw [hLc]; rfl
    have hnd : (Lc.map Prod.fst).Nodup := by rw [hmc, ← hmo]; exact hno
    obtain ⟨bc, hbc⟩ : ∃ X, X = bsetL bs Lc := ⟨_, rfl⟩
    have t0 : bc 0 = bs 0 := by rw [hbc]; exact bsetL_at (x := (0, tLL (cy 0), bs 0, bs 0)) hnd (by rw [hLc]; exact List.mem_of_getElem? (i := 0) rfl)
    have t1 : bc 4 = bs 4 := by rw [hbc]; exact bsetL_at (x := (4, tSt (cy 4), bs 4, bs 4)) hnd (by rw [hLc]; exact List.mem_of_getElem? (i := 1) rfl)
    have t2 : bc 5 = bs 5 := by rw [hbc]; exact bsetL_at (x := (5, tW (cy 5), bs 5, bs 5)) hnd (by rw [hLc]; exact List.mem_of_getElem? (i := 2) rfl)
    have t3 : bc jl = bs jl := by rw [hbc]; exact bsetL_at (x := (jl, tLd ly, bs jl, bs jl)) hnd (by rw [hLc]; exact List.mem_of_getElem? (i := 3) rfl)
    have t4 : bc 7 = u7 := by rw [hbc]; exact bsetL_at (x := (7, tO (cy 7), bs 7, u7)) hnd (by rw [hLc]; exact List.mem_of_getElem? (i := 4) rfl)
    have t5 : bc 6 = u6 := by rw [hbc]; exact bsetL_at (x := (6, tH (cy 6), bs 6, u6)) hnd (by rw [hLc]; exact List.mem_of_getElem? (i := 5) rfl)
    have t6 : bc 8 = u8 := by rw [hbc]; exact bsetL_at (x := (8, tW (cy 8), bs 8, u8)) hnd (by rw [hLc]; exact List.mem_of_getElem? (i := 6) rfl)
    have E1 : ∀ j, (j ≠ 7 ∧ j ≠ 6 ∧ j ≠ 8) → bc j = bs j := by
      intro j hj
      by_cases q0 : j = 0
      · rw [q0]; exact t0
      by_cases q1 : j = 4
      · rw [q1]; exact t1
      by_cases q2 : j = 5
      · rw [q2]; exact t2
      by_cases q3 : j = jl
      · rw [q3]; exact t3
      rw [hbc]
      exact bsetL_ne (by rw [hmc]; simp only [List.mem_cons, List.not_mem_nil, or_false, not_or]; omega)
    obtain ⟨hP, hD⟩ := hcv bc ([]) (fun j h8 h9 => by rw [hbc]; exact bsetL_ne (by rw [hmc, ← hmo]; exact h9)) (by rw [hmo]; simp only [List.flatMap_cons, List.flatMap_nil, List.append_nil, List.append_assoc, t0, t1, t2, t3, t4, t5, t6]; rw [b0, b4, b5, bl, hu7, hu6, hu8])
    rw [List.append_nil] at hP hD
    refine lv_aload_n hx hb dL_law_732 rfl (lv_at hl 1 rfl) ?_
    refine ld1 C hS hl hi dL_law_733 dL_law_734 dL_law_735 dL_law_736 dL_law_737 ?_
    obtain ⟨um, hum⟩ : ∃ X : va_W, X = (cM (ad 46) (cy 46) tape len (nn m) sign lg clause clauses rd nxt wrg num txt mde dep lns opn opd st1 tp1 wd1 S fo x wi1 mo1 br1 w (nn c) kp1 bh1 far que qud onw mvp mvk isf sth drx im imF imX imM) := ⟨_, rfl⟩
    have bm : bc 46 = _ := (E1 46 (by omega)).trans b46
    obtain ⟨Lm, hLm⟩ : ∃ X : List (Nat × List (ClassId × FieldType) × va_W × va_W), X = [(46, tM (cy 46), bc 46, um)] := ⟨_, rfl⟩
    have hnm : (Lm.map Prod.fst).Nodup := by rw [hLm]; show ([46] : List Nat).Nodup; decide
    refine mbQ_i (As := [.int (xs (i + 1))]) (rest := [.int v]) Lm S9 k0 hP hD hS hA (c12_mending (l := l) (D := D) (ad := (ad 46)) (cy := (cy 46)) (z_tape := tape) (z_taped := len) (z_rules := (nn m)) (z_sign := sign) (z_length := lg) (z_clause := clause) (z_clauses := clauses) (z_read := rd) (z_next := nxt) (z_wrong := wrg) (z_number := num) (z_text := txt) (z_made := mde) (z_deep := dep) (z_lines := lns) (z_open := opn) (z_opened := opd) (z_stack := stk) (z_top := tp) (z_word := wd) (z_said := S) (z_force := fo) (z_x := x) (z_will := wil) (z_moved := mov) (z_broke := brk) (z_wasSaid := w) (z_undone := (nn c)) (z_kept := kpt) (z_breakHour := bhr) (z_far := far) (z_queue := que) (z_queued := qud) (z_isOnWay := onw) (z_movePerson := mvp) (z_moveKind := mvk) (z_isFit := isf) (z_standThen := sth) (z_drawX := drx) (z_images := im) (z_imageForce := imF) (z_imageX := imX) (z_isMade := imM) (a1 := (xs (i + 1))) (o_ret := v) (o_stack := st1) (o_top := tp1) (o_word := wd1) (o_said := S) (o_will := wi1) (o_moved := mo1) (o_broke := br1) (o_kept := kp1) (o_breakHour := bh1) hm) hnm (by rw [hLm]; exact List.forall_mem_cons.mpr ⟨show 46 < N by omega, fun _ h9 => absurd h9 List.not_mem_nil⟩) (by rw [hLm]; exact List.forall_mem_cons.mpr ⟨kM, fun _ h9 => absurd h9 List.not_mem_nil⟩) (by rw [hLm]; exact List.forall_mem_cons.mpr ⟨rfl, fun _ h9 => absurd h9 List.not_mem_nil⟩) (by rw [hLm]; rfl) (by rw [hLm]; simp only [List.flatMap_cons, List.flatMap_nil, List.append_nil, List.append_assoc]; rw [bm]) (by rw [hLm]; simp only [List.flatMap_cons, List.flatMap_nil, List.append_nil, List.append_assoc]; rw [hum]) (gdV mw_52_11 mw_52_12 mw_52_13 mw_1_5 mw_52_14) rfl rfl hd_f12_mending ⟨Nat.le_of_ble_eq_true rfl, Nat.le_of_ble_eq_true rfl⟩ (ci := 12) (q0 := 0) rfl rfl rfl hl.1 rfl (Nat.le_of_ble_eq_true rfl) dL_law_738 hf9 (fun H locs hP hD hS => ?_)
    obtain ⟨bn, hbn⟩ : ∃ X, X = bsetL bc Lm := ⟨_, rfl⟩
    rw [← hbn] at hP hD
    have tm : bn 46 = um := by rw [hbn]; exact bsetL_at (x := (46, tM (cy 46), bc 46, um)) hnm (by rw [hLm]; exact List.mem_of_getElem? (i := 0) rfl)
    have E2 : ∀ j, j ≠ 46 → bn j = bc j := by
      intro j hj
      rw [hbn]
      exact bsetL_ne (by rw [hLm]; show j ∉ ([46] : List Nat); simp only [List.mem_cons, List.not_mem_nil, or_false]; exact hj)
    have E : ∀ j, (j ≠ 46 ∧ j ≠ 7 ∧ j ≠ 6 ∧ j ≠ 8) → bn j = bs j := fun j hj => (E2 j (by omega)).trans (E1 j (by omega))
    have s4 : bn 7 = u7 := (E2 _ (by omega)).trans t4
    have s5 : bn 6 = u6 := (E2 _ (by omega)).trans t5
    have s6 : bn 8 = u8 := (E2 _ (by omega)).trans t6
    refine lv_icmp_eq (tgt := 1115) hx hb dL_law_741 rfl (fun _ => ?_) (fun c8 => absurd rfl c8)
    refine W.widen (k := cells + 8) (n := slots + 13200) (Nat.le_add_right _ _) (Nat.le_add_right _ _) ?_
    have EL : ∀ j, 47 ≤ j → j < N → bn j = bs j := fun j h1 h2 => E j (by omega)
    exact kk N bn H locs ⟨m, c, nx, tn, R, P, (lh 0), rls, bytes, len, fo, x, notes, nh, nr, nm, hour, broken, rung, grip, want, slips, worn, tape, sign, clause, clauses, S, w, im, imF, imX, imM, hN, (E 0 (by omega)).trans b0, hBT.congr (E 1 (by omega)), (E 2 (by omega)).trans b2, hBRR.congr (E 3 (by omega)), hBN.congr (E 4 (by omega)), (E 5 (by omega)).trans b5, ⟨_, _, _, _, (s5.trans hu6)⟩, ⟨_, _, _, _, _, _, _, _, _, _, _, _, (s4.trans hu7)⟩, ⟨_, _, _, _, _, _, _, _, (s6.trans hu8)⟩, hBP.congr (E 9 (by omega)), hBS.congr (E 10 (by omega)), hB11.congr (E 11 (by omega)), hSc.congr (Nat.le_refl _) EL, hPs.congr (fun k hk => E _ (by omega)), hIm.congr (Nat.le_refl _) (Nat.le_refl _) (fun k hk => E _ (by omega)) EL, hRu.congr (fun j hj => E _ (by omega)) hm6, ⟨_, _, _, _, _, _, _, _, _, _, _, _, _, _, _, _, _, _, _, _, _, _, _, _, _, _, _, _, tm.trans hum⟩, hTP, hm6, hof, hox⟩ hP hD hS
  · skip
    obtain ⟨rh, ry, rnc, rco, rns, rse, rnt, rte, rsk, rtp, rcs, hrl, bru, kru, hr1, hr2, hr3⟩ := hRu.1 f hfm
    have hRE := rEv hr1 hr2 hr3 (show f < 6 by omega)
    obtain ⟨v, ob1, oh1, om1, on1, hb1, wl1, de1, wo1, h1, b9, rg1, gr1, wt1, sl1, wn1, sk1, tq1, st1, tp1, wd1, wi1, mo1, br1, kp1, bh1, hc, hm⟩ := r_mending_r (rls := rls) (rc := nn m) (fo := fo) (hb := hbr) (wl := hwl) (de := hde) (th := th) (tb := tb) (tr := tr) (tg := tg) (tw := tw) (ts := ts) (tk := tk) (sign := sign) (clause := clause) (clauses := clauses) (st := stk) (tp := tp) (wd := wd) (wil := wil) (mov := mov) (bk := brk) (kept := kpt) (ob := o1) (oh := o2) (om := o3) (on := o4) (bh := bhr) (wo := hwo) (stack := rsk) (top := rtp) hI hW hL hhr (f := f) (by omega) hfo (by rw [hfo]; exact nle (by omega) (by omega) (by omega)) hrl (hfo ▸ hRE) (xs (i + 1))
    refine lv_aload_n hx hb dL_law_723 rfl (lv_at hl 2 rfl) ?_
    refine ld1 C hS hl hi dL_law_724 dL_law_725 dL_law_726 dL_law_727 dL_law_728 ?_
    obtain ⟨Lo, hLo⟩ : ∃ X : List (Nat × List (ClassId × FieldType) × va_W × va_W), X = [(0, tLL (cy 0), bs 0, bs 0), (4, tSt (cy 4), bs 4, bs 4), (5, tW (cy 5), bs 5, bs 5), (jl, tLd ly, bs jl, bs jl), (7, tO (cy 7), bs 7, bs 7), (6, tH (cy 6), bs 6, bs 6), (8, tW (cy 8), bs 8, bs 8), ((40 + f), tRu ry, bs (40 + f), bs (40 + f))] := ⟨_, rfl⟩
    have hmo : Lo.map Prod.fst = [0, 4, 5, jl, 7, 6, 8, (40 + f)] := by rw [hLo]; rfl
    have hno : (Lo.map Prod.fst).Nodup := by rw [hmo]; simp only [List.nodup_cons, List.mem_cons, List.not_mem_nil, or_false, not_or, List.nodup_nil, and_true, not_false_eq_true] <;> omega
    have hlt : ∀ x ∈ Lo, x.1 < N := by rw [hLo]; exact List.forall_mem_cons.mpr ⟨show 0 < N by omega, List.forall_mem_cons.mpr ⟨show 4 < N by omega, List.forall_mem_cons.mpr ⟨show 5 < N by omega, List.forall_mem_cons.mpr ⟨show jl < N by omega, List.forall_mem_cons.mpr ⟨show 7 < N by omega, List.forall_mem_cons.mpr ⟨show 6 < N by omega, List.forall_mem_cons.mpr ⟨show 8 < N by omega, List.forall_mem_cons.mpr ⟨show (40 + f) < N by omega, fun _ h9 => absurd h9 List.not_mem_nil⟩⟩⟩⟩⟩⟩⟩⟩
    have hkL : ∀ x ∈ Lo, va_K D vwCl x.2.1 s := by rw [hLo]; exact List.forall_mem_cons.mpr ⟨kLL, List.forall_mem_cons.mpr ⟨kS4, List.forall_mem_cons.mpr ⟨kW5, List.forall_mem_cons.mpr ⟨kl, List.forall_mem_cons.mpr ⟨kO, List.forall_mem_cons.mpr ⟨kH, List.forall_mem_cons.mpr ⟨kW8, List.forall_mem_cons.mpr ⟨kru, fun _ h9 => absurd h9 List.not_mem_nil⟩⟩⟩⟩⟩⟩⟩⟩
    have hbL : ∀ x ∈ Lo, bs x.1 = x.2.2.1 := by rw [hLo]; exact List.forall_mem_cons.mpr ⟨rfl, List.forall_mem_cons.mpr ⟨rfl, List.forall_mem_cons.mpr ⟨rfl, List.forall_mem_cons.mpr ⟨rfl, List.forall_mem_cons.mpr ⟨rfl, List.forall_mem_cons.mpr ⟨rfl, List.forall_mem_cons.mpr ⟨rfl, List.forall_mem_cons.mpr ⟨rfl, fun _ h9 => absurd h9 List.not_mem_nil⟩⟩⟩⟩⟩⟩⟩⟩
    refine mbQ_ix (As := [.int (xs (i + 1))]) (rest := []) Lo S9 k0 hP hD hS hA (c11_mending_r (l := l) (D := D) (ad_this := (ad 0)) (cy_this := (cy 0)) (z_this_tape := (ad 1 0)) (z_this_ladderReader := (ad 2 0)) (z_this_ruleReader := (ad 3 0)) (z_this_rules := rls) (z_this_ruleCount := (nn m)) (z_this_images := ims) (z_this_past := pst) (z_this_pastNext := (nn nx)) (z_this_pastCount := (nn c)) (z_this_hours := (ad 6 0)) (z_this_paths := (ad 9 0)) (z_this_siege := (ad 10 0)) (ad_this_now := (ad 4)) (cy_this_now := (cy 4)) (z_this_now_force := fo) (z_this_now_x := x) (z_this_now_notes := notes) (z_this_now_noteHour := nh) (z_this_now_noteRung := nr) (z_this_now_noteMany := nm) (z_this_now_made := md) (ad_this_now_world := (ad 5)) (cy_this_now_world := (cy 5)) (z_this_now_world_hour := hour) (z_this_now_world_broken := broken) (z_this_now_world_rung := rung) (z_this_now_world_grip := grip) (z_this_now_world_want := want) (z_this_now_world_slips := slips) (z_this_now_world_worn := worn) (ad_this_now_world_ladder := lh) (cy_this_now_world_ladder := ly) (z_this_now_world_ladder_rungs := ru) (z_this_now_world_ladder_people := pe) (z_this_now_world_ladder_startBroken := sb) (z_this_now_world_ladder_room := ro) (z_this_now_world_ladder_strength := str) (z_this_now_world_ladder_weight := wt) (z_this_now_world_ladder_told := tol) (z_this_now_world_ladder_startRung := srr) (z_this_now_world_ladder_startWant := sww) (ad_this_outlook := (ad 7)) (cy_this_outlook := (cy 7)) (z_this_outlook_brokenRung := o1) (z_this_outlook_brokenHour := o2) (z_this_outlook_mendedRung := o3) (z_this_outlook_mendedHour := o4) (z_this_outlook_fittingCount := o5) (z_this_outlook_firstFitting := o6) (z_this_outlook_partingRung := o7) (z_this_outlook_mostAlike := o8) (z_this_outlook_windSlips := o9) (z_this_outlook_windFalls := oa) (z_this_outlook_windX := ob) (z_this_outlook_crowds := ocr) (ad_this_outlook_hours := (ad 6)) (cy_this_outlook_hours := (cy 6)) (z_this_outlook_hours_brokenRung := hbr) (z_this_outlook_hours_will := hwl) (z_this_outlook_hours_deed := hde) (z_this_outlook_hours_words := hwo) (ad_this_outlook_trial := (ad 8)) (cy_this_outlook_trial := (cy 8)) (z_this_outlook_trial_ladder := tq) (z_this_outlook_trial_hour := th) (z_this_outlook_trial_broken := tb) (z_this_outlook_trial_rung := tr) (z_this_outlook_trial_grip := tg) (z_this_outlook_trial_want := tw) (z_this_outlook_trial_slips := ts) (z_this_outlook_trial_worn := tk) (ad_this_rulesAt := rh) (cy_this_rulesAt := ry) (n_this_rulesAt_code := rnc) (z_this_rulesAt_code := rco) (n_this_rulesAt_sumEnd := rns) (z_this_rulesAt_sumEnd := rse) (n_this_rulesAt_testEnd := rnt) (z_this_rulesAt_testEnd := rte) (z_this_rulesAt_stack := rsk) (z_this_rulesAt_top := rtp) (a1 := (xs (i + 1))) (o_ret := v) (o_this_outlook_brokenRung := ob1) (o_this_outlook_brokenHour := oh1) (o_this_outlook_mendedRung := om1) (o_this_outlook_mendedHour := on1) (o_this_outlook_hours_brokenRung := hb1) (o_this_outlook_hours_will := wl1) (o_this_outlook_hours_deed := de1) (o_this_outlook_hours_words := wo1) (o_this_outlook_trial_hour := h1) (o_this_outlook_trial_broken := b9) (o_this_outlook_trial_rung := rg1) (o_this_outlook_trial_grip := gr1) (o_this_outlook_trial_want := wt1) (o_this_outlook_trial_slips := sl1) (o_this_outlook_trial_worn := wn1) (o_this_rulesAt_stack := sk1) (o_this_rulesAt_top := tq1) hc) hno hlt hkL hbL (by rw [hLo]; rfl) (by rw [hLo]; simp only [List.flatMap_cons, List.flatMap_nil, List.append_nil, List.append_assoc]; rw [b0, b4, b5, bl, b7, b6, b8, bru]) (gdV mw_51_18 mw_51_19 mw_51_20 mw_1_2 mw_51_21) rfl rfl hd_f11_mending_r ⟨Nat.le_of_ble_eq_true rfl, Nat.le_of_ble_eq_true rfl⟩ (ci := 11) (q0 := 0) rfl rfl rfl hl.1 rfl (Nat.le_of_ble_eq_true rfl) dL_law_729 hf9 (fun kx H locs  hcv hS => ?_)
    obtain ⟨u7, hu7⟩ : ∃ X : va_W, X = cO (ad 7) (cy 7) ob1 oh1 om1 on1 o5 o6 o7 o8 o9 oa ob ((ad 6) 0) ((ad 8) 0) ocr := ⟨_, rfl⟩
    obtain ⟨u6, hu6⟩ : ∃ X : va_W, X = cH (ad 6) (cy 6) hb1 wl1 de1 wo1 := ⟨_, rfl⟩
    obtain ⟨u8, hu8⟩ : ∃ X : va_W, X = cW (ad 8) (cy 8) kx h1 b9 rg1 gr1 wt1 sl1 wn1 := ⟨_, rfl⟩
    obtain ⟨u40f, hu40f⟩ : ∃ X : va_W, X = cRu rh ry rnc rco rns rse rnt rte sk1 tq1 := ⟨_, rfl⟩
    obtain ⟨Lc, hLc⟩ : ∃ X : List (Nat × List (ClassId × FieldType) × va_W × va_W), X = [(0, tLL (cy 0), bs 0, bs 0), (4, tSt (cy 4), bs 4, bs 4), (5, tW (cy 5), bs 5, bs 5), (jl, tLd ly, bs jl, bs jl), (7, tO (cy 7), bs 7, u7), (6, tH (cy 6), bs 6, u6), (8, tW (cy 8), bs 8, u8), ((40 + f), tRu ry, bs (40 + f), u40f)] := ⟨_, rfl⟩
    have hmc : Lc.map Prod.fst = [0, 4, 5, jl, 7, 6, 8, (40 + f)] := by rw [hLc]; rfl
    have hnd : (Lc.map Prod.fst).Nodup := by rw [hmc, ← hmo]; exact hno
    obtain ⟨bc, hbc⟩ : ∃ X, X = bsetL bs Lc := ⟨_, rfl⟩
    have t0 : bc 0 = bs 0 := by rw [hbc]; exact bsetL_at (x := (0, tLL (cy 0), bs 0, bs 0)) hnd (by rw [hLc]; exact List.mem_of_getElem? (i := 0) rfl)
    have t1 : bc 4 = bs 4 := by rw [hbc]; exact bsetL_at (x := (4, tSt (cy 4), bs 4, bs 4)) hnd (by rw [hLc]; exact List.mem_of_getElem? (i := 1) rfl)
    have t2 : bc 5 = bs 5 := by rw [hbc]; exact bsetL_at (x := (5, tW (cy 5), bs 5, bs 5)) hnd (by rw [hLc]; exact List.mem_of_getElem? (i := 2) rfl)
    have t3 : bc jl = bs jl := by rw [hbc]; exact bsetL_at (x := (jl, tLd ly, bs jl, bs jl)) hnd (by rw [hLc]; exact List.mem_of_getElem? (i := 3) rfl)
    have t4 : bc 7 = u7 := by rw [hbc]; exact bsetL_at (x := (7, tO (cy 7), bs 7, u7)) hnd (by rw [hLc]; exact List.mem_of_getElem? (i := 4) rfl)
    have t5 : bc 6 = u6 := by rw [hbc]; exact bsetL_at (x := (6, tH (cy 6), bs 6, u6)) hnd (by rw [hLc]; exact List.mem_of_getElem? (i := 5) rfl)
    have t6 : bc 8 = u8 := by rw [hbc]; exact bsetL_at (x := (8, tW (cy 8), bs 8, u8)) hnd (by rw [hLc]; exact List.mem_of_getElem? (i := 6) rfl)
    have t7 : bc (40 + f) = u40f := by rw [hbc]; exact bsetL_at (x := ((40 + f), tRu ry, bs (40 + f), u40f)) hnd (by rw [hLc]; exact List.mem_of_getElem? (i := 7) rfl)
    have E1 : ∀ j, (j ≠ 7 ∧ j ≠ 6 ∧ j ≠ 8 ∧ j ≠ (40 + f)) → bc j = bs j := by
      intro j hj
      by_cases q0 : j = 0
      · rw [q0]; exact t0
      by_cases q1 : j = 4
      · rw [q1]; exact t1
      by_cases q2 : j = 5
      · rw [q2]; exact t2
      by_cases q3 : j = jl
      · rw [q3]; exact t3
      rw [hbc]
      exact bsetL_ne (by rw [hmc]; simp only [List.mem_cons, List.not_mem_nil, or_false, not_or]; omega)
    obtain ⟨hP, hD⟩ := hcv bc ([]) (fun j h8 h9 => by rw [hbc]; exact bsetL_ne (by rw [hmc, ← hmo]; exact h9)) (by rw [hmo]; simp only [List.flatMap_cons, List.flatMap_nil, List.append_nil, List.append_assoc, t0, t1, t2, t3, t4, t5, t6, t7]; rw [b0, b4, b5, bl, hu7, hu6, hu8, hu40f])
    rw [List.append_nil] at hP hD
    refine lv_aload_n hx hb dL_law_732 rfl (lv_at hl 1 rfl) ?_
    refine ld1 C hS hl hi dL_law_733 dL_law_734 dL_law_735 dL_law_736 dL_law_737 ?_
    obtain ⟨um, hum⟩ : ∃ X : va_W, X = (cM (ad 46) (cy 46) tape len (nn m) sign lg clause clauses rd nxt wrg num txt mde dep lns opn opd st1 tp1 wd1 S fo x wi1 mo1 br1 w (nn c) kp1 bh1 far que qud onw mvp mvk isf sth drx im imF imX imM) := ⟨_, rfl⟩
    have bm : bc 46 = _ := (E1 46 (by omega)).trans b46
    obtain ⟨Lm, hLm⟩ : ∃ X : List (Nat × List (ClassId × FieldType) × va_W × va_W), X = [(46, tM (cy 46), bc 46, um)] := ⟨_, rfl⟩
    have hnm : (Lm.map Prod.fst).Nodup := by rw [hLm]; show ([46] : List Nat).Nodup; decide
    refine mbQ_i (As := [.int (xs (i + 1))]) (rest := [.int v]) Lm S9 k0 hP hD hS hA (c12_mending (l := l) (D := D) (ad := (ad 46)) (cy := (cy 46)) (z_tape := tape) (z_taped := len) (z_rules := (nn m)) (z_sign := sign) (z_length := lg) (z_clause := clause) (z_clauses := clauses) (z_read := rd) (z_next := nxt) (z_wrong := wrg) (z_number := num) (z_text := txt) (z_made := mde) (z_deep := dep) (z_lines := lns) (z_open := opn) (z_opened := opd) (z_stack := stk) (z_top := tp) (z_word := wd) (z_said := S) (z_force := fo) (z_x := x) (z_will := wil) (z_moved := mov) (z_broke := brk) (z_wasSaid := w) (z_undone := (nn c)) (z_kept := kpt) (z_breakHour := bhr) (z_far := far) (z_queue := que) (z_queued := qud) (z_isOnWay := onw) (z_movePerson := mvp) (z_moveKind := mvk) (z_isFit := isf) (z_standThen := sth) (z_drawX := drx) (z_images := im) (z_imageForce := imF) (z_imageX := imX) (z_isMade := imM) (a1 := (xs (i + 1))) (o_ret := v) (o_stack := st1) (o_top := tp1) (o_word := wd1) (o_said := S) (o_will := wi1) (o_moved := mo1) (o_broke := br1) (o_kept := kp1) (o_breakHour := bh1) hm) hnm (by rw [hLm]; exact List.forall_mem_cons.mpr ⟨show 46 < N by omega, fun _ h9 => absurd h9 List.not_mem_nil⟩) (by rw [hLm]; exact List.forall_mem_cons.mpr ⟨kM, fun _ h9 => absurd h9 List.not_mem_nil⟩) (by rw [hLm]; exact List.forall_mem_cons.mpr ⟨rfl, fun _ h9 => absurd h9 List.not_mem_nil⟩) (by rw [hLm]; rfl) (by rw [hLm]; simp only [List.flatMap_cons, List.flatMap_nil, List.append_nil, List.append_assoc]; rw [bm]) (by rw [hLm]; simp only [List.flatMap_cons, List.flatMap_nil, List.append_nil, List.append_assoc]; rw [hum]) (gdV mw_52_11 mw_52_12 mw_52_13 mw_1_5 mw_52_14) rfl rfl hd_f12_mending ⟨Nat.le_of_ble_eq_true rfl, Nat.le_of_ble_eq_true rfl⟩ (ci := 12) (q0 := 0) rfl rfl rfl hl.1 rfl (Nat.le_of_ble_eq_true rfl) dL_law_738 hf9 (fun H locs hP hD hS => ?_)
    obtain ⟨bn, hbn⟩ : ∃ X, X = bsetL bc Lm := ⟨_, rfl⟩
    rw [← hbn] at hP hD
    have tm : bn 46 = um := by rw [hbn]; exact bsetL_at (x := (46, tM (cy 46), bc 46, um)) hnm (by rw [hLm]; exact List.mem_of_getElem? (i := 0) rfl)
    have E2 : ∀ j, j ≠ 46 → bn j = bc j := by
      intro j hj
      rw [hbn]
      exact bsetL_ne (by rw [hLm]; show j ∉ ([46] : List Nat); simp only [List.mem_cons, List.not_mem_nil, or_false]; exact hj)
    have E : ∀ j, (j ≠ 46 ∧ j ≠ 7 ∧ j ≠ 6 ∧ j ≠ 8 ∧ j ≠ (40 + f)) → bn j = bs j := fun j hj => (E2 j (by omega)).trans (E1 j (by omega))
    have s4 : bn 7 = u7 := (E2 _ (by omega)).trans t4
    have s5 : bn 6 = u6 := (E2 _ (by omega)).trans t5
    have s6 : bn 8 = u8 := (E2 _ (by omega)).trans t6
    have s7 : bn (40 + f) = u40f := (E2 _ (by omega)).trans t7
    refine lv_icmp_eq (tgt := 1115) hx hb dL_law_741 rfl (fun _ => ?_) (fun c8 => absurd rfl c8)
    refine W.widen (k := cells + 8) (n := slots + 13200) (Nat.le_add_right _ _) (Nat.le_add_right _ _) ?_
    have EL : ∀ j, 47 ≤ j → j < N → bn j = bs j := fun j h1 h2 => E j (by omega)
    exact kk N bn H locs ⟨m, c, nx, tn, R, P, (lh 0), rls, bytes, len, fo, x, notes, nh, nr, nm, hour, broken, rung, grip, want, slips, worn, tape, sign, clause, clauses, S, w, im, imF, imX, imM, hN, (E 0 (by omega)).trans b0, hBT.congr (E 1 (by omega)), (E 2 (by omega)).trans b2, hBRR.congr (E 3 (by omega)), hBN.congr (E 4 (by omega)), (E 5 (by omega)).trans b5, ⟨_, _, _, _, (s5.trans hu6)⟩, ⟨_, _, _, _, _, _, _, _, _, _, _, _, (s4.trans hu7)⟩, ⟨_, _, _, _, _, _, _, _, (s6.trans hu8)⟩, hBP.congr (E 9 (by omega)), hBS.congr (E 10 (by omega)), hB11.congr (E 11 (by omega)), hSc.congr (Nat.le_refl _) EL, hPs.congr (fun k hk => E _ (by omega)), hIm.congr (Nat.le_refl _) (Nat.le_refl _) (fun k hk => E _ (by omega)) EL, hRu.run hm6 hfm hrl (s7.trans hu40f) kru hr1 hr2 hr3 (fun j h1 h2 => E _ (by omega)), ⟨_, _, _, _, _, _, _, _, _, _, _, _, _, _, _, _, _, _, _, _, _, _, _, _, _, _, _, _, tm.trans hum⟩, hTP, hm6, hof, hox⟩ hP hD hS

set_option maxHeartbeats 8000000 in
set_option maxRecDepth 100000 in
theorem k_goods (C : Cx p m9 c9 s A D adK adV ad cy ims pst b L xs) (hi : i + 6 ≤ L) (T : Top D s ad cy ims pst N bs) (hP : va_P D vwCl (bW N bs) H) (hD : va_D A (bW N bs)) (hS : va_S A s.heap H locs) (hl : lv_has ls 4 (lvL ad b i)) (hf : cells + 8 ≤ 600000 ∧ slots + 13200 ≤ 7302250)
    (kk : ∀ (N : Nat) (bs : Nat → va_W) (H : Heap) (locs : List Loc), Top D s ad cy ims pst N bs → va_P D vwCl (bW N bs) H → va_D A (bW N bs) → va_S A s.heap H locs → W p l e room_1 s m9 #[.ref b] below meth c9 H locs (cells + 8) (slots + 13200) Q (F0 m9 1115 ls [])) : W p l e room_1 s m9 #[.ref b] below meth c9 H locs cells slots Q (F0 m9 805 ls []) := by
  obtain ⟨m, c, nx, tn, R, P, A0, rls, bytes, len, fo, x, notes, nh, nr, nm, hour, broken, rung, grip, want, slips, worn, tape, sign, clause, clauses, S, w, im, imF, imX, imM, hN, b0, hBT, b2, hBRR, hBN, b5, hBH, hBO, hB8, hBP, hBS, hB11, hSc, hPs, hIm, hRu, hBM, hTP, hm6, hof, hox⟩ := T
  obtain ⟨S9, hA, hbA, hbl, hX, hL9, hF, hE9, hV9⟩ := id C
  obtain ⟨hx, hb, hml, hown, hts⟩ := id S9
  obtain ⟨k0, kLL, kTp, kRR, kS4, kW5, kH, kO, kW8, kW11, kM, kIm, kPs⟩ := id hF
  have hf9 : cells ≤ room_1.cells ∧ slots ≤ room_1.slots := ⟨Nat.le_trans (Nat.le_add_right _ _) hf.1, Nat.le_trans (Nat.le_add_right _ _) hf.2⟩
  obtain ⟨lg, rd, nxt, wrg, num, txt, mde, dep, lns, opn, opd, stk, tp, wd, wil, mov, brk, kpt, bhr, far, que, qud, onw, mvp, mvk, isf, sth, drx, b46⟩ := id hBM
  obtain ⟨jl, lh, ly, ru, pe, sb, ro, str, wt, tol, srr, sww, g1, g2, g3, bl, kl, hI, hW, hL, hWT, hBg, hhr, hNo⟩ := id hSc
  subst g3
  obtain ⟨md, b4⟩ := id hBN
  obtain ⟨o1, o2, o3, o4, o5, o6, o7, o8, o9, oa, ob, ocr, b7⟩ := id hBO
  obtain ⟨hbr, hwl, hde, hwo, b6⟩ := id hBH
  obtain ⟨tq, th, tb, tr, tg, tw, ts, tk, b8⟩ := id hB8
  rcases id hof with hfo | ⟨f, hfm, hfo⟩
  · skip
    obtain ⟨v, hb1, wl1, de1, h1, b9, rg1, gr1, wt1, sl1, wn1, q1, st1, tp1, wd1, wi1, mo1, br1, kp1, hc, hm⟩ := r_goodsA_n (rls := rls) (rc := nn m) (fo := fo) (hb := hbr) (wl := hwl) (de := hde) (th := th) (tb := tb) (tr := tr) (tg := tg) (tw := tw) (ts := ts) (tk := tk) (sign := sign) (clause := clause) (clauses := clauses) (st := stk) (tp := tp) (wd := wd) (wil := wil) (mov := mov) (bk := brk) (kept := kpt) (qp := tq) (qn := lh 0) hI hW hL (by rw [hfo]; decide) (xs (i + 1)) (xs (i + 2))
    refine lv_aload_n hx hb dL_law_805 rfl (lv_at hl 2 rfl) ?_
    refine ld1 C hS hl hi dL_law_806 dL_law_807 dL_law_808 dL_law_809 dL_law_810 ?_
    refine ld2 C hS hl hi dL_law_811 dL_law_812 dL_law_813 dL_law_814 dL_law_815 ?_
    obtain ⟨u6, hu6⟩ : ∃ X : va_W, X = cH (ad 6) (cy 6) hb1 wl1 de1 hwo := ⟨_, rfl⟩
    obtain ⟨u8, hu8⟩ : ∃ X : va_W, X = cW (ad 8) (cy 8) q1 h1 b9 rg1 gr1 wt1 sl1 wn1 := ⟨_, rfl⟩
    obtain ⟨Lc, hLc⟩ : ∃ X : List (Nat × List (ClassId × FieldType) × va_W × va_W), X = [(0, tLL (cy 0), bs 0, bs 0), (4, tSt (cy 4), bs 4, bs 4), (5, tW (cy 5), bs 5, bs 5), (jl, tLd ly, bs jl, bs jl), (7, tO (cy 7), bs 7, bs 7), (6, tH (cy 6), bs 6, u6), (8, tW (cy 8), bs 8, u8)] := ⟨_, rfl⟩
    have hnd : (Lc.map Prod.fst).Nodup := by rw [hLc]; show ([0, 4, 5, jl, 7, 6, 8] : List Nat).Nodup; simp only [List.nodup_cons, List.mem_cons, List.not_mem_nil, or_false, not_or, List.nodup_nil, and_true, not_false_eq_true] <;> omega
    have hlt : ∀ x ∈ Lc, x.1 < N := by rw [hLc]; exact List.forall_mem_cons.mpr ⟨show 0 < N by omega, List.forall_mem_cons.mpr ⟨show 4 < N by omega, List.forall_mem_cons.mpr ⟨show 5 < N by omega, List.forall_mem_cons.mpr ⟨show jl < N by omega, List.forall_mem_cons.mpr ⟨show 7 < N by omega, List.forall_mem_cons.mpr ⟨show 6 < N by omega, List.forall_mem_cons.mpr ⟨show 8 < N by omega, fun _ h9 => absurd h9 List.not_mem_nil⟩⟩⟩⟩⟩⟩⟩
    have hkL : ∀ x ∈ Lc, va_K D vwCl x.2.1 s := by rw [hLc]; exact List.forall_mem_cons.mpr ⟨kLL, List.forall_mem_cons.mpr ⟨kS4, List.forall_mem_cons.mpr ⟨kW5, List.forall_mem_cons.mpr ⟨kl, List.forall_mem_cons.mpr ⟨kO, List.forall_mem_cons.mpr ⟨kH, List.forall_mem_cons.mpr ⟨kW8, fun _ h9 => absurd h9 List.not_mem_nil⟩⟩⟩⟩⟩⟩⟩
    have hbL : ∀ x ∈ Lc, bs x.1 = x.2.2.1 := by rw [hLc]; exact List.forall_mem_cons.mpr ⟨rfl, List.forall_mem_cons.mpr ⟨rfl, List.forall_mem_cons.mpr ⟨rfl, List.forall_mem_cons.mpr ⟨rfl, List.forall_mem_cons.mpr ⟨rfl, List.forall_mem_cons.mpr ⟨rfl, List.forall_mem_cons.mpr ⟨rfl, fun _ h9 => absurd h9 List.not_mem_nil⟩⟩⟩⟩⟩⟩⟩
    refine mbQ_i (As := [.int (xs (i + 1)), .int (xs (i + 2))]) (rest := []) Lc S9 k0 hP hD hS hA (c11_goods_n (l := l) (D := D) (ad_this := (ad 0)) (cy_this := (cy 0)) (z_this_tape := (ad 1 0)) (z_this_ladderReader := (ad 2 0)) (z_this_ruleReader := (ad 3 0)) (z_this_rules := rls) (z_this_ruleCount := (nn m)) (z_this_images := ims) (z_this_past := pst) (z_this_pastNext := (nn nx)) (z_this_pastCount := (nn c)) (z_this_hours := (ad 6 0)) (z_this_paths := (ad 9 0)) (z_this_siege := (ad 10 0)) (ad_this_now := (ad 4)) (cy_this_now := (cy 4)) (z_this_now_force := fo) (z_this_now_x := x) (z_this_now_notes := notes) (z_this_now_noteHour := nh) (z_this_now_noteRung := nr) (z_this_now_noteMany := nm) (z_this_now_made := md) (ad_this_now_world := (ad 5)) (cy_this_now_world := (cy 5)) (z_this_now_world_hour := hour) (z_this_now_world_broken := broken) (z_this_now_world_rung := rung) (z_this_now_world_grip := grip) (z_this_now_world_want := want) (z_this_now_world_slips := slips) (z_this_now_world_worn := worn) (ad_this_now_world_ladder := lh) (cy_this_now_world_ladder := ly) (z_this_now_world_ladder_rungs := ru) (z_this_now_world_ladder_people := pe) (z_this_now_world_ladder_startBroken := sb) (z_this_now_world_ladder_room := ro) (z_this_now_world_ladder_strength := str) (z_this_now_world_ladder_weight := wt) (z_this_now_world_ladder_told := tol) (z_this_now_world_ladder_startRung := srr) (z_this_now_world_ladder_startWant := sww) (ad_this_outlook := (ad 7)) (cy_this_outlook := (cy 7)) (z_this_outlook_brokenRung := o1) (z_this_outlook_brokenHour := o2) (z_this_outlook_mendedRung := o3) (z_this_outlook_mendedHour := o4) (z_this_outlook_fittingCount := o5) (z_this_outlook_firstFitting := o6) (z_this_outlook_partingRung := o7) (z_this_outlook_mostAlike := o8) (z_this_outlook_windSlips := o9) (z_this_outlook_windFalls := oa) (z_this_outlook_windX := ob) (z_this_outlook_crowds := ocr) (ad_this_outlook_hours := (ad 6)) (cy_this_outlook_hours := (cy 6)) (z_this_outlook_hours_brokenRung := hbr) (z_this_outlook_hours_will := hwl) (z_this_outlook_hours_deed := hde) (z_this_outlook_hours_words := hwo) (ad_this_outlook_trial := (ad 8)) (cy_this_outlook_trial := (cy 8)) (z_this_outlook_trial_ladder := tq) (z_this_outlook_trial_hour := th) (z_this_outlook_trial_broken := tb) (z_this_outlook_trial_rung := tr) (z_this_outlook_trial_grip := tg) (z_this_outlook_trial_want := tw) (z_this_outlook_trial_slips := ts) (z_this_outlook_trial_worn := tk) (a1 := (xs (i + 1))) (a2 := (xs (i + 2))) (o_ret := v) (o_this_outlook_hours_brokenRung := hb1) (o_this_outlook_hours_will := wl1) (o_this_outlook_hours_deed := de1) (o_this_outlook_trial_hour := h1) (o_this_outlook_trial_broken := b9) (o_this_outlook_trial_rung := rg1) (o_this_outlook_trial_grip := gr1) (o_this_outlook_trial_want := wt1) (o_this_outlook_trial_slips := sl1) (o_this_outlook_trial_worn := wn1) (o_link_this_outlook_trial := q1) hc) hnd hlt hkL hbL (by rw [hLc]; rfl) (by rw [hLc]; simp only [List.flatMap_cons, List.flatMap_nil, List.append_nil, List.append_assoc]; rw [b0, b4, b5, bl, b7, b6, b8]) (by rw [hLc]; simp only [List.flatMap_cons, List.flatMap_nil, List.append_nil, List.append_assoc]; rw [b0, b4, b5, bl, b7, hu6, hu8]) (gdV mw_55_17 mw_55_18 mw_55_19 mw_1_2 mw_55_20) rfl rfl hd_f11_goods_n ⟨Nat.le_of_ble_eq_true rfl, Nat.le_of_ble_eq_true rfl⟩ (ci := 11) (q0 := 0) rfl rfl rfl hl.1 rfl (Nat.le_of_ble_eq_true rfl) dL_law_816 hf9 (fun H locs hP hD hS => ?_)
    obtain ⟨bc, hbc⟩ : ∃ X, X = bsetL bs Lc := ⟨_, rfl⟩
    rw [← hbc] at hP hD
    have t0 : bc 0 = bs 0 := by rw [hbc]; exact bsetL_at (x := (0, tLL (cy 0), bs 0, bs 0)) hnd (by rw [hLc]; exact List.mem_of_getElem? (i := 0) rfl)
    have t1 : bc 4 = bs 4 := by rw [hbc]; exact bsetL_at (x := (4, tSt (cy 4), bs 4, bs 4)) hnd (by rw [hLc]; exact List.mem_of_getElem? (i := 1) rfl)
    have t2 : bc 5 = bs 5 := by rw [hbc]; exact bsetL_at (x := (5, tW (cy 5), bs 5, bs 5)) hnd (by rw [hLc]; exact List.mem_of_getElem? (i := 2) rfl)
    have t3 : bc jl = bs jl := by rw [hbc]; exact bsetL_at (x := (jl, tLd ly, bs jl, bs jl)) hnd (by rw [hLc]; exact List.mem_of_getElem? (i := 3) rfl)
    have t4 : bc 7 = bs 7 := by rw [hbc]; exact bsetL_at (x := (7, tO (cy 7), bs 7, bs 7)) hnd (by rw [hLc]; exact List.mem_of_getElem? (i := 4) rfl)
    have t5 : bc 6 = u6 := by rw [hbc]; exact bsetL_at (x := (6, tH (cy 6), bs 6, u6)) hnd (by rw [hLc]; exact List.mem_of_getElem? (i := 5) rfl)
    have t6 : bc 8 = u8 := by rw [hbc]; exact bsetL_at (x := (8, tW (cy 8), bs 8, u8)) hnd (by rw [hLc]; exact List.mem_of_getElem? (i := 6) rfl)
    have E1 : ∀ j, (j ≠ 6 ∧ j ≠ 8) → bc j = bs j := by
      intro j hj
      by_cases q0 : j = 0
      · rw [q0]; exact t0
      by_cases q1 : j = 4
      · rw [q1]; exact t1
      by_cases q2 : j = 5
      · rw [q2]; exact t2
      by_cases q3 : j = jl
      · rw [q3]; exact t3
      by_cases q4 : j = 7
      · rw [q4]; exact t4
      rw [hbc]
      exact bsetL_ne (by rw [hLc]; show j ∉ ([0, 4, 5, jl, 7, 6, 8] : List Nat); simp only [List.mem_cons, List.not_mem_nil, or_false, not_or]; omega)
    refine lv_aload_n hx hb dL_law_819 rfl (lv_at hl 1 rfl) ?_
    refine ld1 C hS hl hi dL_law_820 dL_law_821 dL_law_822 dL_law_823 dL_law_824 ?_
    refine ld2 C hS hl hi dL_law_825 dL_law_826 dL_law_827 dL_law_828 dL_law_829 ?_
    obtain ⟨um, hum⟩ : ∃ X : va_W, X = (cM (ad 46) (cy 46) tape len (nn m) sign lg clause clauses rd nxt wrg num txt mde dep lns opn opd st1 tp1 wd1 S fo x wi1 mo1 br1 w (nn c) kp1 bhr far que qud onw mvp mvk isf sth drx im imF imX imM) := ⟨_, rfl⟩
    have bm : bc 46 = _ := (E1 46 (by omega)).trans b46
    obtain ⟨Lm, hLm⟩ : ∃ X : List (Nat × List (ClassId × FieldType) × va_W × va_W), X = [(46, tM (cy 46), bc 46, um)] := ⟨_, rfl⟩
    have hnm : (Lm.map Prod.fst).Nodup := by rw [hLm]; show ([46] : List Nat).Nodup; decide
    refine mbQ_i (As := [.int (xs (i + 1)), .int (xs (i + 2))]) (rest := [.int v]) Lm S9 k0 hP hD hS hA (c12_goods (l := l) (D := D) (ad := (ad 46)) (cy := (cy 46)) (z_tape := tape) (z_taped := len) (z_rules := (nn m)) (z_sign := sign) (z_length := lg) (z_clause := clause) (z_clauses := clauses) (z_read := rd) (z_next := nxt) (z_wrong := wrg) (z_number := num) (z_text := txt) (z_made := mde) (z_deep := dep) (z_lines := lns) (z_open := opn) (z_opened := opd) (z_stack := stk) (z_top := tp) (z_word := wd) (z_said := S) (z_force := fo) (z_x := x) (z_will := wil) (z_moved := mov) (z_broke := brk) (z_wasSaid := w) (z_undone := (nn c)) (z_kept := kpt) (z_breakHour := bhr) (z_far := far) (z_queue := que) (z_queued := qud) (z_isOnWay := onw) (z_movePerson := mvp) (z_moveKind := mvk) (z_isFit := isf) (z_standThen := sth) (z_drawX := drx) (z_images := im) (z_imageForce := imF) (z_imageX := imX) (z_isMade := imM) (a1 := (xs (i + 1))) (a2 := (xs (i + 2))) (o_ret := v) (o_stack := st1) (o_top := tp1) (o_word := wd1) (o_said := S) (o_will := wi1) (o_moved := mo1) (o_broke := br1) (o_kept := kp1) hm) hnm (by rw [hLm]; exact List.forall_mem_cons.mpr ⟨show 46 < N by omega, fun _ h9 => absurd h9 List.not_mem_nil⟩) (by rw [hLm]; exact List.forall_mem_cons.mpr ⟨kM, fun _ h9 => absurd h9 List.not_mem_nil⟩) (by rw [hLm]; exact List.forall_mem_cons.mpr ⟨rfl, fun _ h9 => absurd h9 List.not_mem_nil⟩) (by rw [hLm]; rfl) (by rw [hLm]; simp only [List.flatMap_cons, List.flatMap_nil, List.append_nil, List.append_assoc]; rw [bm]) (by rw [hLm]; simp only [List.flatMap_cons, List.flatMap_nil, List.append_nil, List.append_assoc]; rw [hum]) (gdV mw_56_2 mw_56_3 mw_56_4 mw_1_5 mw_56_5) rfl rfl hd_f12_goods ⟨Nat.le_of_ble_eq_true rfl, Nat.le_of_ble_eq_true rfl⟩ (ci := 12) (q0 := 0) rfl rfl rfl hl.1 rfl (Nat.le_of_ble_eq_true rfl) dL_law_830 hf9 (fun H locs hP hD hS => ?_)
    obtain ⟨bn, hbn⟩ : ∃ X, X = bsetL bc Lm := ⟨_, rfl⟩
    rw [← hbn] at hP hD
    have tm : bn 46 = um := by rw [hbn]; exact bsetL_at (x := (46, tM (cy 46), bc 46, um)) hnm (by rw [hLm]; exact List.mem_of_getElem? (i := 0) rfl)
    have E2 : ∀ j, j ≠ 46 → bn j = bc j := by
      intro j hj
      rw [hbn]
      exact bsetL_ne (by rw [hLm]; show j ∉ ([46] : List Nat); simp only [List.mem_cons, List.not_mem_nil, or_false]; exact hj)
    have E : ∀ j, (j ≠ 46 ∧ j ≠ 6 ∧ j ≠ 8) → bn j = bs j := fun j hj => (E2 j (by omega)).trans (E1 j (by omega))
    have s5 : bn 6 = u6 := (E2 _ (by omega)).trans t5
    have s6 : bn 8 = u8 := (E2 _ (by omega)).trans t6
    refine lv_icmp_eq (tgt := 1115) hx hb dL_law_833 rfl (fun _ => ?_) (fun c8 => absurd rfl c8)
    refine W.widen (k := cells + 8) (n := slots + 13200) (Nat.le_add_right _ _) (Nat.le_add_right _ _) ?_
    have EL : ∀ j, 47 ≤ j → j < N → bn j = bs j := fun j h1 h2 => E j (by omega)
    exact kk N bn H locs ⟨m, c, nx, tn, R, P, (lh 0), rls, bytes, len, fo, x, notes, nh, nr, nm, hour, broken, rung, grip, want, slips, worn, tape, sign, clause, clauses, S, w, im, imF, imX, imM, hN, (E 0 (by omega)).trans b0, hBT.congr (E 1 (by omega)), (E 2 (by omega)).trans b2, hBRR.congr (E 3 (by omega)), hBN.congr (E 4 (by omega)), (E 5 (by omega)).trans b5, ⟨_, _, _, _, (s5.trans hu6)⟩, hBO.congr (E 7 (by omega)), ⟨_, _, _, _, _, _, _, _, (s6.trans hu8)⟩, hBP.congr (E 9 (by omega)), hBS.congr (E 10 (by omega)), hB11.congr (E 11 (by omega)), hSc.congr (Nat.le_refl _) EL, hPs.congr (fun k hk => E _ (by omega)), hIm.congr (Nat.le_refl _) (Nat.le_refl _) (fun k hk => E _ (by omega)) EL, hRu.congr (fun j hj => E _ (by omega)) hm6, ⟨_, _, _, _, _, _, _, _, _, _, _, _, _, _, _, _, _, _, _, _, _, _, _, _, _, _, _, _, tm.trans hum⟩, hTP, hm6, hof, hox⟩ hP hD hS
  · skip
    obtain ⟨rh, ry, rnc, rco, rns, rse, rnt, rte, rsk, rtp, rcs, hrl, bru, kru, hr1, hr2, hr3⟩ := hRu.1 f hfm
    have hRE := rEv hr1 hr2 hr3 (show f < 6 by omega)
    obtain ⟨v, hb1, wl1, de1, wo1, h1, b9, rg1, gr1, wt1, sl1, wn1, sk1, tq1, q1, st1, tp1, wd1, wi1, mo1, br1, kp1, hc, hm⟩ := r_goodsA_r (rls := rls) (rc := nn m) (fo := fo) (hb := hbr) (wl := hwl) (de := hde) (th := th) (tb := tb) (tr := tr) (tg := tg) (tw := tw) (ts := ts) (tk := tk) (sign := sign) (clause := clause) (clauses := clauses) (st := stk) (tp := tp) (wd := wd) (wil := wil) (mov := mov) (bk := brk) (kept := kpt) (qp := tq) (qn := lh 0) (wo := hwo) (stack := rsk) (top := rtp) hI hW hL (f := f) (by omega) hfo (by rw [hfo]; exact nle (by omega) (by omega) (by omega)) hrl (hfo ▸ hRE) (xs (i + 1)) (xs (i + 2))
    refine lv_aload_n hx hb dL_law_805 rfl (lv_at hl 2 rfl) ?_
    refine ld1 C hS hl hi dL_law_806 dL_law_807 dL_law_808 dL_law_809 dL_law_810 ?_
    refine ld2 C hS hl hi dL_law_811 dL_law_812 dL_law_813 dL_law_814 dL_law_815 ?_
    obtain ⟨u6, hu6⟩ : ∃ X : va_W, X = cH (ad 6) (cy 6) hb1 wl1 de1 wo1 := ⟨_, rfl⟩
    obtain ⟨u8, hu8⟩ : ∃ X : va_W, X = cW (ad 8) (cy 8) q1 h1 b9 rg1 gr1 wt1 sl1 wn1 := ⟨_, rfl⟩
    obtain ⟨u40f, hu40f⟩ : ∃ X : va_W, X = cRu rh ry rnc rco rns rse rnt rte sk1 tq1 := ⟨_, rfl⟩
    obtain ⟨Lc, hLc⟩ : ∃ X : List (Nat × List (ClassId × FieldType) × va_W × va_W), X = [(0, tLL (cy 0), bs 0, bs 0), (4, tSt (cy 4), bs 4, bs 4), (5, tW (cy 5), bs 5, bs 5), (jl, tLd ly, bs jl, bs jl), (7, tO (cy 7), bs 7, bs 7), (6, tH (cy 6), bs 6, u6), (8, tW (cy 8), bs 8, u8), ((40 + f), tRu ry, bs (40 + f), u40f)] := ⟨_, rfl⟩
    have hnd : (Lc.map Prod.fst).Nodup := by rw [hLc]; show ([0, 4, 5, jl, 7, 6, 8, (40 + f)] : List Nat).Nodup; simp only [List.nodup_cons, List.mem_cons, List.not_mem_nil, or_false, not_or, List.nodup_nil, and_true, not_false_eq_true] <;> omega
    have hlt : ∀ x ∈ Lc, x.1 < N := by rw [hLc]; exact List.forall_mem_cons.mpr ⟨show 0 < N by omega, List.forall_mem_cons.mpr ⟨show 4 < N by omega, List.forall_mem_cons.mpr ⟨show 5 < N by omega, List.forall_mem_cons.mpr ⟨show jl < N by omega, List.forall_mem_cons.mpr ⟨show 7 < N by omega, List.forall_mem_cons.mpr ⟨show 6 < N by omega, List.forall_mem_cons.mpr ⟨show 8 < N by omega, List.forall_mem_cons.mpr ⟨show (40 + f) < N by omega, fun _ h9 => absurd h9 List.not_mem_nil⟩⟩⟩⟩⟩⟩⟩⟩
    have hkL : ∀ x ∈ Lc, va_K D vwCl x.2.1 s := by rw [hLc]; exact List.forall_mem_cons.mpr ⟨kLL, List.forall_mem_cons.mpr ⟨kS4, List.forall_mem_cons.mpr ⟨kW5, List.forall_mem_cons.mpr ⟨kl, List.forall_mem_cons.mpr ⟨kO, List.forall_mem_cons.mpr ⟨kH, List.forall_mem_cons.mpr ⟨kW8, List.forall_mem_cons.mpr ⟨kru, fun _ h9 => absurd h9 List.not_mem_nil⟩⟩⟩⟩⟩⟩⟩⟩
    have hbL : ∀ x ∈ Lc, bs x.1 = x.2.2.1 := by rw [hLc]; exact List.forall_mem_cons.mpr ⟨rfl, List.forall_mem_cons.mpr ⟨rfl, List.forall_mem_cons.mpr ⟨rfl, List.forall_mem_cons.mpr ⟨rfl, List.forall_mem_cons.mpr ⟨rfl, List.forall_mem_cons.mpr ⟨rfl, List.forall_mem_cons.mpr ⟨rfl, List.forall_mem_cons.mpr ⟨rfl, fun _ h9 => absurd h9 List.not_mem_nil⟩⟩⟩⟩⟩⟩⟩⟩
    refine mbQ_i (As := [.int (xs (i + 1)), .int (xs (i + 2))]) (rest := []) Lc S9 k0 hP hD hS hA (c11_goods_r (l := l) (D := D) (ad_this := (ad 0)) (cy_this := (cy 0)) (z_this_tape := (ad 1 0)) (z_this_ladderReader := (ad 2 0)) (z_this_ruleReader := (ad 3 0)) (z_this_rules := rls) (z_this_ruleCount := (nn m)) (z_this_images := ims) (z_this_past := pst) (z_this_pastNext := (nn nx)) (z_this_pastCount := (nn c)) (z_this_hours := (ad 6 0)) (z_this_paths := (ad 9 0)) (z_this_siege := (ad 10 0)) (ad_this_now := (ad 4)) (cy_this_now := (cy 4)) (z_this_now_force := fo) (z_this_now_x := x) (z_this_now_notes := notes) (z_this_now_noteHour := nh) (z_this_now_noteRung := nr) (z_this_now_noteMany := nm) (z_this_now_made := md) (ad_this_now_world := (ad 5)) (cy_this_now_world := (cy 5)) (z_this_now_world_hour := hour) (z_this_now_world_broken := broken) (z_this_now_world_rung := rung) (z_this_now_world_grip := grip) (z_this_now_world_want := want) (z_this_now_world_slips := slips) (z_this_now_world_worn := worn) (ad_this_now_world_ladder := lh) (cy_this_now_world_ladder := ly) (z_this_now_world_ladder_rungs := ru) (z_this_now_world_ladder_people := pe) (z_this_now_world_ladder_startBroken := sb) (z_this_now_world_ladder_room := ro) (z_this_now_world_ladder_strength := str) (z_this_now_world_ladder_weight := wt) (z_this_now_world_ladder_told := tol) (z_this_now_world_ladder_startRung := srr) (z_this_now_world_ladder_startWant := sww) (ad_this_outlook := (ad 7)) (cy_this_outlook := (cy 7)) (z_this_outlook_brokenRung := o1) (z_this_outlook_brokenHour := o2) (z_this_outlook_mendedRung := o3) (z_this_outlook_mendedHour := o4) (z_this_outlook_fittingCount := o5) (z_this_outlook_firstFitting := o6) (z_this_outlook_partingRung := o7) (z_this_outlook_mostAlike := o8) (z_this_outlook_windSlips := o9) (z_this_outlook_windFalls := oa) (z_this_outlook_windX := ob) (z_this_outlook_crowds := ocr) (ad_this_outlook_hours := (ad 6)) (cy_this_outlook_hours := (cy 6)) (z_this_outlook_hours_brokenRung := hbr) (z_this_outlook_hours_will := hwl) (z_this_outlook_hours_deed := hde) (z_this_outlook_hours_words := hwo) (ad_this_outlook_trial := (ad 8)) (cy_this_outlook_trial := (cy 8)) (z_this_outlook_trial_ladder := tq) (z_this_outlook_trial_hour := th) (z_this_outlook_trial_broken := tb) (z_this_outlook_trial_rung := tr) (z_this_outlook_trial_grip := tg) (z_this_outlook_trial_want := tw) (z_this_outlook_trial_slips := ts) (z_this_outlook_trial_worn := tk) (ad_this_rulesAt := rh) (cy_this_rulesAt := ry) (n_this_rulesAt_code := rnc) (z_this_rulesAt_code := rco) (n_this_rulesAt_sumEnd := rns) (z_this_rulesAt_sumEnd := rse) (n_this_rulesAt_testEnd := rnt) (z_this_rulesAt_testEnd := rte) (z_this_rulesAt_stack := rsk) (z_this_rulesAt_top := rtp) (a1 := (xs (i + 1))) (a2 := (xs (i + 2))) (o_ret := v) (o_this_outlook_hours_brokenRung := hb1) (o_this_outlook_hours_will := wl1) (o_this_outlook_hours_deed := de1) (o_this_outlook_hours_words := wo1) (o_this_outlook_trial_hour := h1) (o_this_outlook_trial_broken := b9) (o_this_outlook_trial_rung := rg1) (o_this_outlook_trial_grip := gr1) (o_this_outlook_trial_want := wt1) (o_this_outlook_trial_slips := sl1) (o_this_outlook_trial_worn := wn1) (o_this_rulesAt_stack := sk1) (o_this_rulesAt_top := tq1) (o_link_this_outlook_trial := q1) hc) hnd hlt hkL hbL (by rw [hLc]; rfl) (by rw [hLc]; simp only [List.flatMap_cons, List.flatMap_nil, List.append_nil, List.append_assoc]; rw [b0, b4, b5, bl, b7, b6, b8, bru]) (by rw [hLc]; simp only [List.flatMap_cons, List.flatMap_nil, List.append_nil, List.append_assoc]; rw [b0, b4, b5, bl, b7, hu6, hu8, hu40f]) (gdV mw_55_17 mw_55_18 mw_55_19 mw_1_2 mw_55_20) rfl rfl hd_f11_goods_r ⟨Nat.le_of_ble_eq_true rfl, Nat.le_of_ble_eq_true rfl⟩ (ci := 11) (q0 := 0) rfl rfl rfl hl.1 rfl (Nat.le_of_ble_eq_true rfl) dL_law_816 hf9 (fun H locs hP hD hS => ?_)
    obtain ⟨bc, hbc⟩ : ∃ X, X = bsetL bs Lc := ⟨_, rfl⟩
    rw [← hbc] at hP hD
    have t0 : bc 0 = bs 0 := by rw [hbc]; exact bsetL_at (x := (0, tLL (cy 0), bs 0, bs 0)) hnd (by rw [hLc]; exact List.mem_of_getElem? (i := 0) rfl)
    have t1 : bc 4 = bs 4 := by rw [hbc]; exact bsetL_at (x := (4, tSt (cy 4), bs 4, bs 4)) hnd (by rw [hLc]; exact List.mem_of_getElem? (i := 1) rfl)
    have t2 : bc 5 = bs 5 := by rw [hbc]; exact bsetL_at (x := (5, tW (cy 5), bs 5, bs 5)) hnd (by rw [hLc]; exact List.mem_of_getElem? (i := 2) rfl)
    have t3 : bc jl = bs jl := by rw [hbc]; exact bsetL_at (x := (jl, tLd ly, bs jl, bs jl)) hnd (by rw [hLc]; exact List.mem_of_getElem? (i := 3) rfl)
    have t4 : bc 7 = bs 7 := by rw [hbc]; exact bsetL_at (x := (7, tO (cy 7), bs 7, bs 7)) hnd (by rw [hLc]; exact List.mem_of_getElem? (i := 4) rfl)
    have t5 : bc 6 = u6 := by rw [hbc]; exact bsetL_at (x := (6, tH (cy 6), bs 6, u6)) hnd (by rw [hLc]; exact List.mem_of_getElem? (i := 5) rfl)
    have t6 : bc 8 = u8 := by rw [hbc]; exact bsetL_at (x := (8, tW (cy 8), bs 8, u8)) hnd (by rw [hLc]; exact List.mem_of_getElem? (i := 6) rfl)
    have t7 : bc (40 + f) = u40f := by rw [hbc]; exact bsetL_at (x := ((40 + f), tRu ry, bs (40 + f), u40f)) hnd (by rw [hLc]; exact List.mem_of_getElem? (i := 7) rfl)
    have E1 : ∀ j, (j ≠ 6 ∧ j ≠ 8 ∧ j ≠ (40 + f)) → bc j = bs j := by
      intro j hj
      by_cases q0 : j = 0
      · rw [q0]; exact t0
      by_cases q1 : j = 4
      · rw [q1]; exact t1
      by_cases q2 : j = 5
      · rw [q2]; exact t2
      by_cases q3 : j = jl
      · rw [q3]; exact t3
      by_cases q4 : j = 7
      · rw [q4]; exact t4
      rw [hbc]
      exact bsetL_ne (by rw [hLc]; show j ∉ ([0, 4, 5, jl, 7, 6, 8, (40 + f)] : List Nat); simp only [List.mem_cons, List.not_mem_nil, or_false, not_or]; omega)
    refine lv_aload_n hx hb dL_law_819 rfl (lv_at hl 1 rfl) ?_
    refine ld1 C hS hl hi dL_law_820 dL_law_821 dL_law_822 dL_law_823 dL_law_824 ?_
    refine ld2 C hS hl hi dL_law_825 dL_law_826 dL_law_827 dL_law_828 dL_law_829 ?_
    obtain ⟨um, hum⟩ : ∃ X : va_W, X = (cM (ad 46) (cy 46) tape len (nn m) sign lg clause clauses rd nxt wrg num txt mde dep lns opn opd st1 tp1 wd1 S fo x wi1 mo1 br1 w (nn c) kp1 bhr far que qud onw mvp mvk isf sth drx im imF imX imM) := ⟨_, rfl⟩
    have bm : bc 46 = _ := (E1 46 (by omega)).trans b46
    obtain ⟨Lm, hLm⟩ : ∃ X : List (Nat × List (ClassId × FieldType) × va_W × va_W), X = [(46, tM (cy 46), bc 46, um)] := ⟨_, rfl⟩
    have hnm : (Lm.map Prod.fst).Nodup := by rw [hLm]; show ([46] : List Nat).Nodup; decide
    refine mbQ_i (As := [.int (xs (i + 1)), .int (xs (i + 2))]) (rest := [.int v]) Lm S9 k0 hP hD hS hA (c12_goods (l := l) (D := D) (ad := (ad 46)) (cy := (cy 46)) (z_tape := tape) (z_taped := len) (z_rules := (nn m)) (z_sign := sign) (z_length := lg) (z_clause := clause) (z_clauses := clauses) (z_read := rd) (z_next := nxt) (z_wrong := wrg) (z_number := num) (z_text := txt) (z_made := mde) (z_deep := dep) (z_lines := lns) (z_open := opn) (z_opened := opd) (z_stack := stk) (z_top := tp) (z_word := wd) (z_said := S) (z_force := fo) (z_x := x) (z_will := wil) (z_moved := mov) (z_broke := brk) (z_wasSaid := w) (z_undone := (nn c)) (z_kept := kpt) (z_breakHour := bhr) (z_far := far) (z_queue := que) (z_queued := qud) (z_isOnWay := onw) (z_movePerson := mvp) (z_moveKind := mvk) (z_isFit := isf) (z_standThen := sth) (z_drawX := drx) (z_images := im) (z_imageForce := imF) (z_imageX := imX) (z_isMade := imM) (a1 := (xs (i + 1))) (a2 := (xs (i + 2))) (o_ret := v) (o_stack := st1) (o_top := tp1) (o_word := wd1) (o_said := S) (o_will := wi1) (o_moved := mo1) (o_broke := br1) (o_kept := kp1) hm) hnm (by rw [hLm]; exact List.forall_mem_cons.mpr ⟨show 46 < N by omega, fun _ h9 => absurd h9 List.not_mem_nil⟩) (by rw [hLm]; exact List.forall_mem_cons.mpr ⟨kM, fun _ h9 => absurd h9 List.not_mem_nil⟩) (by rw [hLm]; exact List.forall_mem_cons.mpr ⟨rfl, fun _ h9 => absurd h9 List.not_mem_nil⟩) (by rw [hLm]; rfl) (by rw [hLm]; simp only [List.flatMap_cons, List.flatMap_nil, List.append_nil, List.append_assoc]; rw [bm]) (by rw [hLm]; simp only [List.flatMap_cons, List.flatMap_nil, List.append_nil, List.append_assoc]; rw [hum]) (gdV mw_56_2 mw_56_3 mw_56_4 mw_1_5 mw_56_5) rfl rfl hd_f12_goods ⟨Nat.le_of_ble_eq_true rfl, Nat.le_of_ble_eq_true rfl⟩ (ci := 12) (q0 := 0) rfl rfl rfl hl.1 rfl (Nat.le_of_ble_eq_true rfl) dL_law_830 hf9 (fun H locs hP hD hS => ?_)
    obtain ⟨bn, hbn⟩ : ∃ X, X = bsetL bc Lm := ⟨_, rfl⟩
    rw [← hbn] at hP hD
    have tm : bn 46 = um := by rw [hbn]; exact bsetL_at (x := (46, tM (cy 46), bc 46, um)) hnm (by rw [hLm]; exact List.mem_of_getElem? (i := 0) rfl)
    have E2 : ∀ j, j ≠ 46 → bn j = bc j := by
      intro j hj
      rw [hbn]
      exact bsetL_ne (by rw [hLm]; show j ∉ ([46] : List Nat); simp only [List.mem_cons, List.not_mem_nil, or_false]; exact hj)
    have E : ∀ j, (j ≠ 46 ∧ j ≠ 6 ∧ j ≠ 8 ∧ j ≠ (40 + f)) → bn j = bs j := fun j hj => (E2 j (by omega)).trans (E1 j (by omega))
    have s5 : bn 6 = u6 := (E2 _ (by omega)).trans t5
    have s6 : bn 8 = u8 := (E2 _ (by omega)).trans t6
    have s7 : bn (40 + f) = u40f := (E2 _ (by omega)).trans t7
    refine lv_icmp_eq (tgt := 1115) hx hb dL_law_833 rfl (fun _ => ?_) (fun c8 => absurd rfl c8)
    refine W.widen (k := cells + 8) (n := slots + 13200) (Nat.le_add_right _ _) (Nat.le_add_right _ _) ?_
    have EL : ∀ j, 47 ≤ j → j < N → bn j = bs j := fun j h1 h2 => E j (by omega)
    exact kk N bn H locs ⟨m, c, nx, tn, R, P, (lh 0), rls, bytes, len, fo, x, notes, nh, nr, nm, hour, broken, rung, grip, want, slips, worn, tape, sign, clause, clauses, S, w, im, imF, imX, imM, hN, (E 0 (by omega)).trans b0, hBT.congr (E 1 (by omega)), (E 2 (by omega)).trans b2, hBRR.congr (E 3 (by omega)), hBN.congr (E 4 (by omega)), (E 5 (by omega)).trans b5, ⟨_, _, _, _, (s5.trans hu6)⟩, hBO.congr (E 7 (by omega)), ⟨_, _, _, _, _, _, _, _, (s6.trans hu8)⟩, hBP.congr (E 9 (by omega)), hBS.congr (E 10 (by omega)), hB11.congr (E 11 (by omega)), hSc.congr (Nat.le_refl _) EL, hPs.congr (fun k hk => E _ (by omega)), hIm.congr (Nat.le_refl _) (Nat.le_refl _) (fun k hk => E _ (by omega)) EL, hRu.run hm6 hfm hrl (s7.trans hu40f) kru hr1 hr2 hr3 (fun j h1 h2 => E _ (by omega)), ⟨_, _, _, _, _, _, _, _, _, _, _, _, _, _, _, _, _, _, _, _, _, _, _, _, _, _, _, _, tm.trans hum⟩, hTP, hm6, hof, hox⟩ hP hD hS

set_option maxHeartbeats 8000000 in
set_option maxRecDepth 100000 in
theorem k_years (C : Cx p m9 c9 s A D adK adV ad cy ims pst b L xs) (hi : i + 6 ≤ L) (T : Top D s ad cy ims pst N bs) (hP : va_P D vwCl (bW N bs) H) (hD : va_D A (bW N bs)) (hS : va_S A s.heap H locs) (hl : lv_has ls 4 (lvL ad b i)) (hf : cells + 8 ≤ 600000 ∧ slots + 13200 ≤ 7302250)
    (kk : ∀ (N : Nat) (bs : Nat → va_W) (H : Heap) (locs : List Loc), Top D s ad cy ims pst N bs → va_P D vwCl (bW N bs) H → va_D A (bW N bs) → va_S A s.heap H locs → W p l e room_1 s m9 #[.ref b] below meth c9 H locs (cells + 8) (slots + 13200) Q (F0 m9 1115 ls [])) : W p l e room_1 s m9 #[.ref b] below meth c9 H locs cells slots Q (F0 m9 993 ls []) := by
  obtain ⟨m, c, nx, tn, R, P, A0, rls, bytes, len, fo, x, notes, nh, nr, nm, hour, broken, rung, grip, want, slips, worn, tape, sign, clause, clauses, S, w, im, imF, imX, imM, hN, b0, hBT, b2, hBRR, hBN, b5, hBH, hBO, hB8, hBP, hBS, hB11, hSc, hPs, hIm, hRu, hBM, hTP, hm6, hof, hox⟩ := T
  obtain ⟨S9, hA, hbA, hbl, hX, hL9, hF, hE9, hV9⟩ := id C
  obtain ⟨hx, hb, hml, hown, hts⟩ := id S9
  obtain ⟨k0, kLL, kTp, kRR, kS4, kW5, kH, kO, kW8, kW11, kM, kIm, kPs⟩ := id hF
  have hf9 : cells ≤ room_1.cells ∧ slots ≤ room_1.slots := ⟨Nat.le_trans (Nat.le_add_right _ _) hf.1, Nat.le_trans (Nat.le_add_right _ _) hf.2⟩
  obtain ⟨lg, rd, nxt, wrg, num, txt, mde, dep, lns, opn, opd, stk, tp, wd, wil, mov, brk, kpt, bhr, far, que, qud, onw, mvp, mvk, isf, sth, drx, b46⟩ := id hBM
  obtain ⟨jl, lh, ly, ru, pe, sb, ro, str, wt, tol, srr, sww, g1, g2, g3, bl, kl, hI, hW, hL, hWT, hBg, hhr, hNo⟩ := id hSc
  subst g3
  obtain ⟨md, b4⟩ := id hBN
  obtain ⟨o1, o2, o3, o4, o5, o6, o7, o8, o9, oa, ob, ocr, b7⟩ := id hBO
  obtain ⟨hbr, hwl, hde, hwo, b6⟩ := id hBH
  obtain ⟨tq, th, tb, tr, tg, tw, ts, tk, b8⟩ := id hB8
  rcases id hof with hfo | ⟨f, hfm, hfo⟩
  · skip
    obtain ⟨v, ws1, wf1, wx1, hb1, wl1, de1, h1, b9, rg1, gr1, wt1, sl1, wn1, st1, tp1, wd1, wi1, mo1, br1, kp1, dx1, hc, hm⟩ := r_years_n (rls := rls) (rc := nn m) (fo := fo) (hb := hbr) (wl := hwl) (de := hde) (th := th) (tb := tb) (tr := tr) (tg := tg) (tw := tw) (ts := ts) (tk := tk) (sign := sign) (clause := clause) (clauses := clauses) (st := stk) (tp := tp) (wd := wd) (wil := wil) (mov := mov) (bk := brk) (kept := kpt) (xv := x) (ws := o9) (wf := oa) (wx := ob) (dx := drx) hI hW hL hox (by rw [hfo]; decide) (xs (i + 1)) (xs (i + 2)) (xs (i + 3)) (xs (i + 4))
    refine lv_aload_n hx hb dL_law_993 rfl (lv_at hl 2 rfl) ?_
    refine ld1 C hS hl hi dL_law_994 dL_law_995 dL_law_996 dL_law_997 dL_law_998 ?_
    refine ld2 C hS hl hi dL_law_999 dL_law_1000 dL_law_1001 dL_law_1002 dL_law_1003 ?_
    refine ld3 C hS hl hi dL_law_1004 dL_law_1005 dL_law_1006 dL_law_1007 dL_law_1008 ?_
    refine ld4 C hS hl hi dL_law_1009 dL_law_1010 dL_law_1011 dL_law_1012 dL_law_1013 ?_
    obtain ⟨Lo, hLo⟩ : ∃ X : List (Nat × List (ClassId × FieldType) × va_W × va_W), X = [(0, tLL (cy 0), bs 0, bs 0), (4, tSt (cy 4), bs 4, bs 4), (5, tW (cy 5), bs 5, bs 5), (jl, tLd ly, bs jl, bs jl), (7, tO (cy 7), bs 7, bs 7), (6, tH (cy 6), bs 6, bs 6), (8, tW (cy 8), bs 8, bs 8)] := ⟨_, rfl⟩
    have hmo : Lo.map Prod.fst = [0, 4, 5, jl, 7, 6, 8] := by rw [hLo]; rfl
    have hno : (Lo.map Prod.fst).Nodup := by rw [hmo]; simp only [List.nodup_cons, List.mem_cons, List.not_mem_nil, or_false, not_or, List.nodup_nil, and_true, not_false_eq_true] <;> omega
    have hlt : ∀ x ∈ Lo, x.1 < N := by rw [hLo]; exact List.forall_mem_cons.mpr ⟨show 0 < N by omega, List.forall_mem_cons.mpr ⟨show 4 < N by omega, List.forall_mem_cons.mpr ⟨show 5 < N by omega, List.forall_mem_cons.mpr ⟨show jl < N by omega, List.forall_mem_cons.mpr ⟨show 7 < N by omega, List.forall_mem_cons.mpr ⟨show 6 < N by omega, List.forall_mem_cons.mpr ⟨show 8 < N by omega, fun _ h9 => absurd h9 List.not_mem_nil⟩⟩⟩⟩⟩⟩⟩
    have hkL : ∀ x ∈ Lo, va_K D vwCl x.2.1 s := by rw [hLo]; exact List.forall_mem_cons.mpr ⟨kLL, List.forall_mem_cons.mpr ⟨kS4, List.forall_mem_cons.mpr ⟨kW5, List.forall_mem_cons.mpr ⟨kl, List.forall_mem_cons.mpr ⟨kO, List.forall_mem_cons.mpr ⟨kH, List.forall_mem_cons.mpr ⟨kW8, fun _ h9 => absurd h9 List.not_mem_nil⟩⟩⟩⟩⟩⟩⟩
    have hbL : ∀ x ∈ Lo, bs x.1 = x.2.2.1 := by rw [hLo]; exact List.forall_mem_cons.mpr ⟨rfl, List.forall_mem_cons.mpr ⟨rfl, List.forall_mem_cons.mpr ⟨rfl, List.forall_mem_cons.mpr ⟨rfl, List.forall_mem_cons.mpr ⟨rfl, List.forall_mem_cons.mpr ⟨rfl, List.forall_mem_cons.mpr ⟨rfl, fun _ h9 => absurd h9 List.not_mem_nil⟩⟩⟩⟩⟩⟩⟩
    refine mbQ_ix (As := [.int (xs (i + 1)), .int (xs (i + 2)), .int (xs (i + 3)), .int (xs (i + 4))]) (rest := []) Lo S9 k0 hP hD hS hA (c11_years_n (l := l) (D := D) (ad_this := (ad 0)) (cy_this := (cy 0)) (z_this_tape := (ad 1 0)) (z_this_ladderReader := (ad 2 0)) (z_this_ruleReader := (ad 3 0)) (z_this_rules := rls) (z_this_ruleCount := (nn m)) (z_this_images := ims) (z_this_past := pst) (z_this_pastNext := (nn nx)) (z_this_pastCount := (nn c)) (z_this_hours := (ad 6 0)) (z_this_paths := (ad 9 0)) (z_this_siege := (ad 10 0)) (ad_this_now := (ad 4)) (cy_this_now := (cy 4)) (z_this_now_force := fo) (z_this_now_x := x) (z_this_now_notes := notes) (z_this_now_noteHour := nh) (z_this_now_noteRung := nr) (z_this_now_noteMany := nm) (z_this_now_made := md) (ad_this_now_world := (ad 5)) (cy_this_now_world := (cy 5)) (z_this_now_world_hour := hour) (z_this_now_world_broken := broken) (z_this_now_world_rung := rung) (z_this_now_world_grip := grip) (z_this_now_world_want := want) (z_this_now_world_slips := slips) (z_this_now_world_worn := worn) (ad_this_now_world_ladder := lh) (cy_this_now_world_ladder := ly) (z_this_now_world_ladder_rungs := ru) (z_this_now_world_ladder_people := pe) (z_this_now_world_ladder_startBroken := sb) (z_this_now_world_ladder_room := ro) (z_this_now_world_ladder_strength := str) (z_this_now_world_ladder_weight := wt) (z_this_now_world_ladder_told := tol) (z_this_now_world_ladder_startRung := srr) (z_this_now_world_ladder_startWant := sww) (ad_this_outlook := (ad 7)) (cy_this_outlook := (cy 7)) (z_this_outlook_brokenRung := o1) (z_this_outlook_brokenHour := o2) (z_this_outlook_mendedRung := o3) (z_this_outlook_mendedHour := o4) (z_this_outlook_fittingCount := o5) (z_this_outlook_firstFitting := o6) (z_this_outlook_partingRung := o7) (z_this_outlook_mostAlike := o8) (z_this_outlook_windSlips := o9) (z_this_outlook_windFalls := oa) (z_this_outlook_windX := ob) (z_this_outlook_crowds := ocr) (ad_this_outlook_hours := (ad 6)) (cy_this_outlook_hours := (cy 6)) (z_this_outlook_hours_brokenRung := hbr) (z_this_outlook_hours_will := hwl) (z_this_outlook_hours_deed := hde) (z_this_outlook_hours_words := hwo) (ad_this_outlook_trial := (ad 8)) (cy_this_outlook_trial := (cy 8)) (z_this_outlook_trial_ladder := tq) (z_this_outlook_trial_hour := th) (z_this_outlook_trial_broken := tb) (z_this_outlook_trial_rung := tr) (z_this_outlook_trial_grip := tg) (z_this_outlook_trial_want := tw) (z_this_outlook_trial_slips := ts) (z_this_outlook_trial_worn := tk) (a1 := (xs (i + 1))) (a2 := (xs (i + 2))) (a3 := (xs (i + 3))) (a4 := (xs (i + 4))) (o_ret := v) (o_this_outlook_windSlips := ws1) (o_this_outlook_windFalls := wf1) (o_this_outlook_windX := wx1) (o_this_outlook_hours_brokenRung := hb1) (o_this_outlook_hours_will := wl1) (o_this_outlook_hours_deed := de1) (o_this_outlook_trial_hour := h1) (o_this_outlook_trial_broken := b9) (o_this_outlook_trial_rung := rg1) (o_this_outlook_trial_grip := gr1) (o_this_outlook_trial_want := wt1) (o_this_outlook_trial_slips := sl1) (o_this_outlook_trial_worn := wn1) hc) hno hlt hkL hbL (by rw [hLo]; rfl) (by rw [hLo]; simp only [List.flatMap_cons, List.flatMap_nil, List.append_nil, List.append_assoc]; rw [b0, b4, b5, bl, b7, b6, b8]) (gdV mw_60_22 mw_60_23 mw_61_0 mw_1_2 mw_61_1) rfl rfl hd_f11_years_n ⟨Nat.le_of_ble_eq_true rfl, Nat.le_of_ble_eq_true rfl⟩ (ci := 11) (q0 := 0) rfl rfl rfl hl.1 rfl (Nat.le_of_ble_eq_true rfl) dL_law_1014 hf9 (fun kx H locs  hcv hS => ?_)
    obtain ⟨u7, hu7⟩ : ∃ X : va_W, X = cO (ad 7) (cy 7) o1 o2 o3 o4 o5 o6 o7 o8 ws1 wf1 wx1 ((ad 6) 0) ((ad 8) 0) ocr := ⟨_, rfl⟩
    obtain ⟨u6, hu6⟩ : ∃ X : va_W, X = cH (ad 6) (cy 6) hb1 wl1 de1 hwo := ⟨_, rfl⟩
    obtain ⟨u8, hu8⟩ : ∃ X : va_W, X = cW (ad 8) (cy 8) kx h1 b9 rg1 gr1 wt1 sl1 wn1 := ⟨_, rfl⟩
    obtain ⟨Lc, hLc⟩ : ∃ X : List (Nat × List (ClassId × FieldType) × va_W × va_W), X = [(0, tLL (cy 0), bs 0, bs 0), (4, tSt (cy 4), bs 4, bs 4), (5, tW (cy 5), bs 5, bs 5), (jl, tLd ly, bs jl, bs jl), (7, tO (cy 7), bs 7, u7), (6, tH (cy 6), bs 6, u6), (8, tW (cy 8), bs 8, u8)] := ⟨_, rfl⟩
    have hmc : Lc.map Prod.fst = [0, 4, 5, jl, 7, 6, 8] := by rw [hLc]; rfl
    have hnd : (Lc.map Prod.fst).Nodup := by rw [hmc, ← hmo]; exact hno
    obtain ⟨bc, hbc⟩ : ∃ X, X = bsetL bs Lc := ⟨_, rfl⟩
    have t0 : bc 0 = bs 0 := by rw [hbc]; exact bsetL_at (x := (0, tLL (cy 0), bs 0, bs 0)) hnd (by rw [hLc]; exact List.mem_of_getElem? (i := 0) rfl)
    have t1 : bc 4 = bs 4 := by rw [hbc]; exact bsetL_at (x := (4, tSt (cy 4), bs 4, bs 4)) hnd (by rw [hLc]; exact List.mem_of_getElem? (i := 1) rfl)
    have t2 : bc 5 = bs 5 := by rw [hbc]; exact bsetL_at (x := (5, tW (cy 5), bs 5, bs 5)) hnd (by rw [hLc]; exact List.mem_of_getElem? (i := 2) rfl)
    have t3 : bc jl = bs jl := by rw [hbc]; exact bsetL_at (x := (jl, tLd ly, bs jl, bs jl)) hnd (by rw [hLc]; exact List.mem_of_getElem? (i := 3) rfl)
    have t4 : bc 7 = u7 := by rw [hbc]; exact bsetL_at (x := (7, tO (cy 7), bs 7, u7)) hnd (by rw [hLc]; exact List.mem_of_getElem? (i := 4) rfl)
    have t5 : bc 6 = u6 := by rw [hbc]; exact bsetL_at (x := (6, tH (cy 6), bs 6, u6)) hnd (by rw [hLc]; exact List.mem_of_getElem? (i := 5) rfl)
    have t6 : bc 8 = u8 := by rw [hbc]; exact bsetL_at (x := (8, tW (cy 8), bs 8, u8)) hnd (by rw [hLc]; exact List.mem_of_getElem? (i := 6) rfl)
    have E1 : ∀ j, (j ≠ 7 ∧ j ≠ 6 ∧ j ≠ 8) → bc j = bs j := by
      intro j hj
      by_cases q0 : j = 0
      · rw [q0]; exact t0
      by_cases q1 : j = 4
      · rw [q1]; exact t1
      by_cases q2 : j = 5
      · rw [q2]; exact t2
      by_cases q3 : j = jl
      · rw [q3]; exact t3
      rw [hbc]
      exact bsetL_ne (by rw [hmc]; simp only [List.mem_cons, List.not_mem_nil, or_false, not_or]; omega)
    obtain ⟨hP, hD⟩ := hcv bc ([]) (fun j h8 h9 => by rw [hbc]; exact bsetL_ne (by rw [hmc, ← hmo]; exact h9)) (by rw [hmo]; simp only [List.flatMap_cons, List.flatMap_nil, List.append_nil, List.append_assoc, t0, t1, t2, t3, t4, t5, t6]; rw [b0, b4, b5, bl, hu7, hu6, hu8])
    rw [List.append_nil] at hP hD
    refine lv_aload_n hx hb dL_law_1017 rfl (lv_at hl 1 rfl) ?_
    refine ld1 C hS hl hi dL_law_1018 dL_law_1019 dL_law_1020 dL_law_1021 dL_law_1022 ?_
    refine ld2 C hS hl hi dL_law_1023 dL_law_1024 dL_law_1025 dL_law_1026 dL_law_1027 ?_
    refine ld3 C hS hl hi dL_law_1028 dL_law_1029 dL_law_1030 dL_law_1031 dL_law_1032 ?_
    refine ld4 C hS hl hi dL_law_1033 dL_law_1034 dL_law_1035 dL_law_1036 dL_law_1037 ?_
    obtain ⟨um, hum⟩ : ∃ X : va_W, X = (cM (ad 46) (cy 46) tape len (nn m) sign lg clause clauses rd nxt wrg num txt mde dep lns opn opd st1 tp1 wd1 S fo x wi1 mo1 br1 w (nn c) kp1 bhr far que qud onw mvp mvk isf sth dx1 im imF imX imM) := ⟨_, rfl⟩
    have bm : bc 46 = _ := (E1 46 (by omega)).trans b46
    obtain ⟨Lm, hLm⟩ : ∃ X : List (Nat × List (ClassId × FieldType) × va_W × va_W), X = [(46, tM (cy 46), bc 46, um)] := ⟨_, rfl⟩
    have hnm : (Lm.map Prod.fst).Nodup := by rw [hLm]; show ([46] : List Nat).Nodup; decide
    refine mbQ_i (As := [.int (xs (i + 1)), .int (xs (i + 2)), .int (xs (i + 3)), .int (xs (i + 4))]) (rest := [.int v]) Lm S9 k0 hP hD hS hA (c12_years (l := l) (D := D) (ad := (ad 46)) (cy := (cy 46)) (z_tape := tape) (z_taped := len) (z_rules := (nn m)) (z_sign := sign) (z_length := lg) (z_clause := clause) (z_clauses := clauses) (z_read := rd) (z_next := nxt) (z_wrong := wrg) (z_number := num) (z_text := txt) (z_made := mde) (z_deep := dep) (z_lines := lns) (z_open := opn) (z_opened := opd) (z_stack := stk) (z_top := tp) (z_word := wd) (z_said := S) (z_force := fo) (z_x := x) (z_will := wil) (z_moved := mov) (z_broke := brk) (z_wasSaid := w) (z_undone := (nn c)) (z_kept := kpt) (z_breakHour := bhr) (z_far := far) (z_queue := que) (z_queued := qud) (z_isOnWay := onw) (z_movePerson := mvp) (z_moveKind := mvk) (z_isFit := isf) (z_standThen := sth) (z_drawX := drx) (z_images := im) (z_imageForce := imF) (z_imageX := imX) (z_isMade := imM) (a1 := (xs (i + 1))) (a2 := (xs (i + 2))) (a3 := (xs (i + 3))) (a4 := (xs (i + 4))) (o_ret := v) (o_stack := st1) (o_top := tp1) (o_word := wd1) (o_said := S) (o_will := wi1) (o_moved := mo1) (o_broke := br1) (o_kept := kp1) (o_drawX := dx1) hm) hnm (by rw [hLm]; exact List.forall_mem_cons.mpr ⟨show 46 < N by omega, fun _ h9 => absurd h9 List.not_mem_nil⟩) (by rw [hLm]; exact List.forall_mem_cons.mpr ⟨kM, fun _ h9 => absurd h9 List.not_mem_nil⟩) (by rw [hLm]; exact List.forall_mem_cons.mpr ⟨rfl, fun _ h9 => absurd h9 List.not_mem_nil⟩) (by rw [hLm]; rfl) (by rw [hLm]; simp only [List.flatMap_cons, List.flatMap_nil, List.append_nil, List.append_assoc]; rw [bm]) (by rw [hLm]; simp only [List.flatMap_cons, List.flatMap_nil, List.append_nil, List.append_assoc]; rw [hum]) (gdV mw_62_10 mw_62_11 mw_62_12 mw_1_5 mw_62_13) rfl rfl hd_f12_years ⟨Nat.le_of_ble_eq_true rfl, Nat.le_of_ble_eq_true rfl⟩ (ci := 12) (q0 := 0) rfl rfl rfl hl.1 rfl (Nat.le_of_ble_eq_true rfl) dL_law_1038 hf9 (fun H locs hP hD hS => ?_)
    obtain ⟨bn, hbn⟩ : ∃ X, X = bsetL bc Lm := ⟨_, rfl⟩
    rw [← hbn] at hP hD
    have tm : bn 46 = um := by rw [hbn]; exact bsetL_at (x := (46, tM (cy 46), bc 46, um)) hnm (by rw [hLm]; exact List.mem_of_getElem? (i := 0) rfl)
    have E2 : ∀ j, j ≠ 46 → bn j = bc j := by
      intro j hj
      rw [hbn]
      exact bsetL_ne (by rw [hLm]; show j ∉ ([46] : List Nat); simp only [List.mem_cons, List.not_mem_nil, or_false]; exact hj)
    have E : ∀ j, (j ≠ 46 ∧ j ≠ 7 ∧ j ≠ 6 ∧ j ≠ 8) → bn j = bs j := fun j hj => (E2 j (by omega)).trans (E1 j (by omega))
    have s4 : bn 7 = u7 := (E2 _ (by omega)).trans t4
    have s5 : bn 6 = u6 := (E2 _ (by omega)).trans t5
    have s6 : bn 8 = u8 := (E2 _ (by omega)).trans t6
    refine lv_icmp_eq (tgt := 1115) hx hb dL_law_1041 rfl (fun _ => ?_) (fun c8 => absurd rfl c8)
    refine W.widen (k := cells + 8) (n := slots + 13200) (Nat.le_add_right _ _) (Nat.le_add_right _ _) ?_
    have EL : ∀ j, 47 ≤ j → j < N → bn j = bs j := fun j h1 h2 => E j (by omega)
    exact kk N bn H locs ⟨m, c, nx, tn, R, P, (lh 0), rls, bytes, len, fo, x, notes, nh, nr, nm, hour, broken, rung, grip, want, slips, worn, tape, sign, clause, clauses, S, w, im, imF, imX, imM, hN, (E 0 (by omega)).trans b0, hBT.congr (E 1 (by omega)), (E 2 (by omega)).trans b2, hBRR.congr (E 3 (by omega)), hBN.congr (E 4 (by omega)), (E 5 (by omega)).trans b5, ⟨_, _, _, _, (s5.trans hu6)⟩, ⟨_, _, _, _, _, _, _, _, _, _, _, _, (s4.trans hu7)⟩, ⟨_, _, _, _, _, _, _, _, (s6.trans hu8)⟩, hBP.congr (E 9 (by omega)), hBS.congr (E 10 (by omega)), hB11.congr (E 11 (by omega)), hSc.congr (Nat.le_refl _) EL, hPs.congr (fun k hk => E _ (by omega)), hIm.congr (Nat.le_refl _) (Nat.le_refl _) (fun k hk => E _ (by omega)) EL, hRu.congr (fun j hj => E _ (by omega)) hm6, ⟨_, _, _, _, _, _, _, _, _, _, _, _, _, _, _, _, _, _, _, _, _, _, _, _, _, _, _, _, tm.trans hum⟩, hTP, hm6, hof, hox⟩ hP hD hS
  · skip
    obtain ⟨rh, ry, rnc, rco, rns, rse, rnt, rte, rsk, rtp, rcs, hrl, bru, kru, hr1, hr2, hr3⟩ := hRu.1 f hfm
    have hRE := rEv hr1 hr2 hr3 (show f < 6 by omega)
    obtain ⟨v, ws1, wf1, wx1, hb1, wl1, de1, wo1, h1, b9, rg1, gr1, wt1, sl1, wn1, sk1, tq1, st1, tp1, wd1, wi1, mo1, br1, kp1, dx1, hc, hm⟩ := r_years_r (rls := rls) (rc := nn m) (fo := fo) (hb := hbr) (wl := hwl) (de := hde) (th := th) (tb := tb) (tr := tr) (tg := tg) (tw := tw) (ts := ts) (tk := tk) (sign := sign) (clause := clause) (clauses := clauses) (st := stk) (tp := tp) (wd := wd) (wil := wil) (mov := mov) (bk := brk) (kept := kpt) (xv := x) (ws := o9) (wf := oa) (wx := ob) (dx := drx) (wo := hwo) (stack := rsk) (top := rtp) hI hW hL hox (f := f) (by omega) hfo (by rw [hfo]; exact nle (by omega) (by omega) (by omega)) hrl (hfo ▸ hRE) (xs (i + 1)) (xs (i + 2)) (xs (i + 3)) (xs (i + 4))
    refine lv_aload_n hx hb dL_law_993 rfl (lv_at hl 2 rfl) ?_
    refine ld1 C hS hl hi dL_law_994 dL_law_995 dL_law_996 dL_law_997 dL_law_998 ?_
    refine ld2 C hS hl hi dL_law_999 dL_law_1000 dL_law_1001 dL_law_1002 dL_law_1003 ?_
    refine ld3 C hS hl hi dL_law_1004 dL_law_1005 dL_law_1006 dL_law_1007 dL_law_1008 ?_
    refine ld4 C hS hl hi dL_law_1009 dL_law_1010 dL_law_1011 dL_law_1012 dL_law_1013 ?_
    obtain ⟨Lo, hLo⟩ : ∃ X : List (Nat × List (ClassId × FieldType) × va_W × va_W), X = [(0, tLL (cy 0), bs 0, bs 0), (4, tSt (cy 4), bs 4, bs 4), (5, tW (cy 5), bs 5, bs 5), (jl, tLd ly, bs jl, bs jl), (7, tO (cy 7), bs 7, bs 7), (6, tH (cy 6), bs 6, bs 6), (8, tW (cy 8), bs 8, bs 8), ((40 + f), tRu ry, bs (40 + f), bs (40 + f))] := ⟨_, rfl⟩
    have hmo : Lo.map Prod.fst = [0, 4, 5, jl, 7, 6, 8, (40 + f)] := by rw [hLo]; rfl
    have hno : (Lo.map Prod.fst).Nodup := by rw [hmo]; simp only [List.nodup_cons, List.mem_cons, List.not_mem_nil, or_false, not_or, List.nodup_nil, and_true, not_false_eq_true] <;> omega
    have hlt : ∀ x ∈ Lo, x.1 < N := by rw [hLo]; exact List.forall_mem_cons.mpr ⟨show 0 < N by omega, List.forall_mem_cons.mpr ⟨show 4 < N by omega, List.forall_mem_cons.mpr ⟨show 5 < N by omega, List.forall_mem_cons.mpr ⟨show jl < N by omega, List.forall_mem_cons.mpr ⟨show 7 < N by omega, List.forall_mem_cons.mpr ⟨show 6 < N by omega, List.forall_mem_cons.mpr ⟨show 8 < N by omega, List.forall_mem_cons.mpr ⟨show (40 + f) < N by omega, fun _ h9 => absurd h9 List.not_mem_nil⟩⟩⟩⟩⟩⟩⟩⟩
    have hkL : ∀ x ∈ Lo, va_K D vwCl x.2.1 s := by rw [hLo]; exact List.forall_mem_cons.mpr ⟨kLL, List.forall_mem_cons.mpr ⟨kS4, List.forall_mem_cons.mpr ⟨kW5, List.forall_mem_cons.mpr ⟨kl, List.forall_mem_cons.mpr ⟨kO, List.forall_mem_cons.mpr ⟨kH, List.forall_mem_cons.mpr ⟨kW8, List.forall_mem_cons.mpr ⟨kru, fun _ h9 => absurd h9 List.not_mem_nil⟩⟩⟩⟩⟩⟩⟩⟩
    have hbL : ∀ x ∈ Lo, bs x.1 = x.2.2.1 := by rw [hLo]; exact List.forall_mem_cons.mpr ⟨rfl, List.forall_mem_cons.mpr ⟨rfl, List.forall_mem_cons.mpr ⟨rfl, List.forall_mem_cons.mpr ⟨rfl, List.forall_mem_cons.mpr ⟨rfl, List.forall_mem_cons.mpr ⟨rfl, List.forall_mem_cons.mpr ⟨rfl, List.forall_mem_cons.mpr ⟨rfl, fun _ h9 => absurd h9 List.not_mem_nil⟩⟩⟩⟩⟩⟩⟩⟩
    refine mbQ_ix (As := [.int (xs (i + 1)), .int (xs (i + 2)), .int (xs (i + 3)), .int (xs (i + 4))]) (rest := []) Lo S9 k0 hP hD hS hA (c11_years_r (l := l) (D := D) (ad_this := (ad 0)) (cy_this := (cy 0)) (z_this_tape := (ad 1 0)) (z_this_ladderReader := (ad 2 0)) (z_this_ruleReader := (ad 3 0)) (z_this_rules := rls) (z_this_ruleCount := (nn m)) (z_this_images := ims) (z_this_past := pst) (z_this_pastNext := (nn nx)) (z_this_pastCount := (nn c)) (z_this_hours := (ad 6 0)) (z_this_paths := (ad 9 0)) (z_this_siege := (ad 10 0)) (ad_this_now := (ad 4)) (cy_this_now := (cy 4)) (z_this_now_force := fo) (z_this_now_x := x) (z_this_now_notes := notes) (z_this_now_noteHour := nh) (z_this_now_noteRung := nr) (z_this_now_noteMany := nm) (z_this_now_made := md) (ad_this_now_world := (ad 5)) (cy_this_now_world := (cy 5)) (z_this_now_world_hour := hour) (z_this_now_world_broken := broken) (z_this_now_world_rung := rung) (z_this_now_world_grip := grip) (z_this_now_world_want := want) (z_this_now_world_slips := slips) (z_this_now_world_worn := worn) (ad_this_now_world_ladder := lh) (cy_this_now_world_ladder := ly) (z_this_now_world_ladder_rungs := ru) (z_this_now_world_ladder_people := pe) (z_this_now_world_ladder_startBroken := sb) (z_this_now_world_ladder_room := ro) (z_this_now_world_ladder_strength := str) (z_this_now_world_ladder_weight := wt) (z_this_now_world_ladder_told := tol) (z_this_now_world_ladder_startRung := srr) (z_this_now_world_ladder_startWant := sww) (ad_this_outlook := (ad 7)) (cy_this_outlook := (cy 7)) (z_this_outlook_brokenRung := o1) (z_this_outlook_brokenHour := o2) (z_this_outlook_mendedRung := o3) (z_this_outlook_mendedHour := o4) (z_this_outlook_fittingCount := o5) (z_this_outlook_firstFitting := o6) (z_this_outlook_partingRung := o7) (z_this_outlook_mostAlike := o8) (z_this_outlook_windSlips := o9) (z_this_outlook_windFalls := oa) (z_this_outlook_windX := ob) (z_this_outlook_crowds := ocr) (ad_this_outlook_hours := (ad 6)) (cy_this_outlook_hours := (cy 6)) (z_this_outlook_hours_brokenRung := hbr) (z_this_outlook_hours_will := hwl) (z_this_outlook_hours_deed := hde) (z_this_outlook_hours_words := hwo) (ad_this_outlook_trial := (ad 8)) (cy_this_outlook_trial := (cy 8)) (z_this_outlook_trial_ladder := tq) (z_this_outlook_trial_hour := th) (z_this_outlook_trial_broken := tb) (z_this_outlook_trial_rung := tr) (z_this_outlook_trial_grip := tg) (z_this_outlook_trial_want := tw) (z_this_outlook_trial_slips := ts) (z_this_outlook_trial_worn := tk) (ad_this_rulesAt := rh) (cy_this_rulesAt := ry) (n_this_rulesAt_code := rnc) (z_this_rulesAt_code := rco) (n_this_rulesAt_sumEnd := rns) (z_this_rulesAt_sumEnd := rse) (n_this_rulesAt_testEnd := rnt) (z_this_rulesAt_testEnd := rte) (z_this_rulesAt_stack := rsk) (z_this_rulesAt_top := rtp) (a1 := (xs (i + 1))) (a2 := (xs (i + 2))) (a3 := (xs (i + 3))) (a4 := (xs (i + 4))) (o_ret := v) (o_this_outlook_windSlips := ws1) (o_this_outlook_windFalls := wf1) (o_this_outlook_windX := wx1) (o_this_outlook_hours_brokenRung := hb1) (o_this_outlook_hours_will := wl1) (o_this_outlook_hours_deed := de1) (o_this_outlook_hours_words := wo1) (o_this_outlook_trial_hour := h1) (o_this_outlook_trial_broken := b9) (o_this_outlook_trial_rung := rg1) (o_this_outlook_trial_grip := gr1) (o_this_outlook_trial_want := wt1) (o_this_outlook_trial_slips := sl1) (o_this_outlook_trial_worn := wn1) (o_this_rulesAt_stack := sk1) (o_this_rulesAt_top := tq1) hc) hno hlt hkL hbL (by rw [hLo]; rfl) (by rw [hLo]; simp only [List.flatMap_cons, List.flatMap_nil, List.append_nil, List.append_assoc]; rw [b0, b4, b5, bl, b7, b6, b8, bru]) (gdV mw_60_22 mw_60_23 mw_61_0 mw_1_2 mw_61_1) rfl rfl hd_f11_years_r ⟨Nat.le_of_ble_eq_true rfl, Nat.le_of_ble_eq_true rfl⟩ (ci := 11) (q0 := 0) rfl rfl rfl hl.1 rfl (Nat.le_of_ble_eq_true rfl) dL_law_1014 hf9 (fun kx H locs  hcv hS => ?_)
    obtain ⟨u7, hu7⟩ : ∃ X : va_W, X = cO (ad 7) (cy 7) o1 o2 o3 o4 o5 o6 o7 o8 ws1 wf1 wx1 ((ad 6) 0) ((ad 8) 0) ocr := ⟨_, rfl⟩
    obtain ⟨u6, hu6⟩ : ∃ X : va_W, X = cH (ad 6) (cy 6) hb1 wl1 de1 wo1 := ⟨_, rfl⟩
    obtain ⟨u8, hu8⟩ : ∃ X : va_W, X = cW (ad 8) (cy 8) kx h1 b9 rg1 gr1 wt1 sl1 wn1 := ⟨_, rfl⟩
    obtain ⟨u40f, hu40f⟩ : ∃ X : va_W, X = cRu rh ry rnc rco rns rse rnt rte sk1 tq1 := ⟨_, rfl⟩
    obtain ⟨Lc, hLc⟩ : ∃ X : List (Nat × List (ClassId × FieldType) × va_W × va_W), X = [(0, tLL (cy 0), bs 0, bs 0), (4, tSt (cy 4), bs 4, bs 4), (5, tW (cy 5), bs 5, bs 5), (jl, tLd ly, bs jl, bs jl), (7, tO (cy 7), bs 7, u7), (6, tH (cy 6), bs 6, u6), (8, tW (cy 8), bs 8, u8), ((40 + f), tRu ry, bs (40 + f), u40f)] := ⟨_, rfl⟩
    have hmc : Lc.map Prod.fst = [0, 4, 5, jl, 7, 6, 8, (40 + f)] := by rw [hLc]; rfl
    have hnd : (Lc.map Prod.fst).Nodup := by rw [hmc, ← hmo]; exact hno
    obtain ⟨bc, hbc⟩ : ∃ X, X = bsetL bs Lc := ⟨_, rfl⟩
    have t0 : bc 0 = bs 0 := by rw [hbc]; exact bsetL_at (x := (0, tLL (cy 0), bs 0, bs 0)) hnd (by rw [hLc]; exact List.mem_of_getElem? (i := 0) rfl)
    have t1 : bc 4 = bs 4 := by rw [hbc]; exact bsetL_at (x := (4, tSt (cy 4), bs 4, bs 4)) hnd (by rw [hLc]; exact List.mem_of_getElem? (i := 1) rfl)
    have t2 : bc 5 = bs 5 := by rw [hbc]; exact bsetL_at (x := (5, tW (cy 5), bs 5, bs 5)) hnd (by rw [hLc]; exact List.mem_of_getElem? (i := 2) rfl)
    have t3 : bc jl = bs jl := by rw [hbc]; exact bsetL_at (x := (jl, tLd ly, bs jl, bs jl)) hnd (by rw [hLc]; exact List.mem_of_getElem? (i := 3) rfl)
    have t4 : bc 7 = u7 := by rw [hbc]; exact bsetL_at (x := (7, tO (cy 7), bs 7, u7)) hnd (by rw [hLc]; exact List.mem_of_getElem? (i := 4) rfl)
    have t5 : bc 6 = u6 := by rw [hbc]; exact bsetL_at (x := (6, tH (cy 6), bs 6, u6)) hnd (by rw [hLc]; exact List.mem_of_getElem? (i := 5) rfl)
    have t6 : bc 8 = u8 := by rw [hbc]; exact bsetL_at (x := (8, tW (cy 8), bs 8, u8)) hnd (by rw [hLc]; exact List.mem_of_getElem? (i := 6) rfl)
    have t7 : bc (40 + f) = u40f := by rw [hbc]; exact bsetL_at (x := ((40 + f), tRu ry, bs (40 + f), u40f)) hnd (by rw [hLc]; exact List.mem_of_getElem? (i := 7) rfl)
    have E1 : ∀ j, (j ≠ 7 ∧ j ≠ 6 ∧ j ≠ 8 ∧ j ≠ (40 + f)) → bc j = bs j := by
      intro j hj
      by_cases q0 : j = 0
      · rw [q0]; exact t0
      by_cases q1 : j = 4
      · rw [q1]; exact t1
      by_cases q2 : j = 5
      · rw [q2]; exact t2
      by_cases q3 : j = jl
      · rw [q3]; exact t3
      rw [hbc]
      exact bsetL_ne (by rw [hmc]; simp only [List.mem_cons, List.not_mem_nil, or_false, not_or]; omega)
    obtain ⟨hP, hD⟩ := hcv bc ([]) (fun j h8 h9 => by rw [hbc]; exact bsetL_ne (by rw [hmc, ← hmo]; exact h9)) (by rw [hmo]; simp only [List.flatMap_cons, List.flatMap_nil, List.append_nil, List.append_assoc, t0, t1, t2, t3, t4, t5, t6, t7]; rw [b0, b4, b5, bl, hu7, hu6, hu8, hu40f])
    rw [List.append_nil] at hP hD
    refine lv_aload_n hx hb dL_law_1017 rfl (lv_at hl 1 rfl) ?_
    refine ld1 C hS hl hi dL_law_1018 dL_law_1019 dL_law_1020 dL_law_1021 dL_law_1022 ?_
    refine ld2 C hS hl hi dL_law_1023 dL_law_1024 dL_law_1025 dL_law_1026 dL_law_1027 ?_
    refine ld3 C hS hl hi dL_law_1028 dL_law_1029 dL_law_1030 dL_law_1031 dL_law_1032 ?_
    refine ld4 C hS hl hi dL_law_1033 dL_law_1034 dL_law_1035 dL_law_1036 dL_law_1037 ?_
    obtain ⟨um, hum⟩ : ∃ X : va_W, X = (cM (ad 46) (cy 46) tape len (nn m) sign lg clause clauses rd nxt wrg num txt mde dep lns opn opd st1 tp1 wd1 S fo x wi1 mo1 br1 w (nn c) kp1 bhr far que qud onw mvp mvk isf sth dx1 im imF imX imM) := ⟨_, rfl⟩
    have bm : bc 46 = _ := (E1 46 (by omega)).trans b46
    obtain ⟨Lm, hLm⟩ : ∃ X : List (Nat × List (ClassId × FieldType) × va_W × va_W), X = [(46, tM (cy 46), bc 46, um)] := ⟨_, rfl⟩
    have hnm : (Lm.map Prod.fst).Nodup := by rw [hLm]; show ([46] : List Nat).Nodup; decide
    refine mbQ_i (As := [.int (xs (i + 1)), .int (xs (i + 2)), .int (xs (i + 3)), .int (xs (i + 4))]) (rest := [.int v]) Lm S9 k0 hP hD hS hA (c12_years (l := l) (D := D) (ad := (ad 46)) (cy := (cy 46)) (z_tape := tape) (z_taped := len) (z_rules := (nn m)) (z_sign := sign) (z_length := lg) (z_clause := clause) (z_clauses := clauses) (z_read := rd) (z_next := nxt) (z_wrong := wrg) (z_number := num) (z_text := txt) (z_made := mde) (z_deep := dep) (z_lines := lns) (z_open := opn) (z_opened := opd) (z_stack := stk) (z_top := tp) (z_word := wd) (z_said := S) (z_force := fo) (z_x := x) (z_will := wil) (z_moved := mov) (z_broke := brk) (z_wasSaid := w) (z_undone := (nn c)) (z_kept := kpt) (z_breakHour := bhr) (z_far := far) (z_queue := que) (z_queued := qud) (z_isOnWay := onw) (z_movePerson := mvp) (z_moveKind := mvk) (z_isFit := isf) (z_standThen := sth) (z_drawX := drx) (z_images := im) (z_imageForce := imF) (z_imageX := imX) (z_isMade := imM) (a1 := (xs (i + 1))) (a2 := (xs (i + 2))) (a3 := (xs (i + 3))) (a4 := (xs (i + 4))) (o_ret := v) (o_stack := st1) (o_top := tp1) (o_word := wd1) (o_said := S) (o_will := wi1) (o_moved := mo1) (o_broke := br1) (o_kept := kp1) (o_drawX := dx1) hm) hnm (by rw [hLm]; exact List.forall_mem_cons.mpr ⟨show 46 < N by omega, fun _ h9 => absurd h9 List.not_mem_nil⟩) (by rw [hLm]; exact List.forall_mem_cons.mpr ⟨kM, fun _ h9 => absurd h9 List.not_mem_nil⟩) (by rw [hLm]; exact List.forall_mem_cons.mpr ⟨rfl, fun _ h9 => absurd h9 List.not_mem_nil⟩) (by rw [hLm]; rfl) (by rw [hLm]; simp only [List.flatMap_cons, List.flatMap_nil, List.append_nil, List.append_assoc]; rw [bm]) (by rw [hLm]; simp only [List.flatMap_cons, List.flatMap_nil, List.append_nil, List.append_assoc]; rw [hum]) (gdV mw_62_10 mw_62_11 mw_62_12 mw_1_5 mw_62_13) rfl rfl hd_f12_years ⟨Nat.le_of_ble_eq_true rfl, Nat.le_of_ble_eq_true rfl⟩ (ci := 12) (q0 := 0) rfl rfl rfl hl.1 rfl (Nat.le_of_ble_eq_true rfl) dL_law_1038 hf9 (fun H locs hP hD hS => ?_)
    obtain ⟨bn, hbn⟩ : ∃ X, X = bsetL bc Lm := ⟨_, rfl⟩
    rw [← hbn] at hP hD
    have tm : bn 46 = um := by rw [hbn]; exact bsetL_at (x := (46, tM (cy 46), bc 46, um)) hnm (by rw [hLm]; exact List.mem_of_getElem? (i := 0) rfl)
    have E2 : ∀ j, j ≠ 46 → bn j = bc j := by
      intro j hj
      rw [hbn]
      exact bsetL_ne (by rw [hLm]; show j ∉ ([46] : List Nat); simp only [List.mem_cons, List.not_mem_nil, or_false]; exact hj)
    have E : ∀ j, (j ≠ 46 ∧ j ≠ 7 ∧ j ≠ 6 ∧ j ≠ 8 ∧ j ≠ (40 + f)) → bn j = bs j := fun j hj => (E2 j (by omega)).trans (E1 j (by omega))
    have s4 : bn 7 = u7 := (E2 _ (by omega)).trans t4
    have s5 : bn 6 = u6 := (E2 _ (by omega)).trans t5
    have s6 : bn 8 = u8 := (E2 _ (by omega)).trans t6
    have s7 : bn (40 + f) = u40f := (E2 _ (by omega)).trans t7
    refine lv_icmp_eq (tgt := 1115) hx hb dL_law_1041 rfl (fun _ => ?_) (fun c8 => absurd rfl c8)
    refine W.widen (k := cells + 8) (n := slots + 13200) (Nat.le_add_right _ _) (Nat.le_add_right _ _) ?_
    have EL : ∀ j, 47 ≤ j → j < N → bn j = bs j := fun j h1 h2 => E j (by omega)
    exact kk N bn H locs ⟨m, c, nx, tn, R, P, (lh 0), rls, bytes, len, fo, x, notes, nh, nr, nm, hour, broken, rung, grip, want, slips, worn, tape, sign, clause, clauses, S, w, im, imF, imX, imM, hN, (E 0 (by omega)).trans b0, hBT.congr (E 1 (by omega)), (E 2 (by omega)).trans b2, hBRR.congr (E 3 (by omega)), hBN.congr (E 4 (by omega)), (E 5 (by omega)).trans b5, ⟨_, _, _, _, (s5.trans hu6)⟩, ⟨_, _, _, _, _, _, _, _, _, _, _, _, (s4.trans hu7)⟩, ⟨_, _, _, _, _, _, _, _, (s6.trans hu8)⟩, hBP.congr (E 9 (by omega)), hBS.congr (E 10 (by omega)), hB11.congr (E 11 (by omega)), hSc.congr (Nat.le_refl _) EL, hPs.congr (fun k hk => E _ (by omega)), hIm.congr (Nat.le_refl _) (Nat.le_refl _) (fun k hk => E _ (by omega)) EL, hRu.run hm6 hfm hrl (s7.trans hu40f) kru hr1 hr2 hr3 (fun j h1 h2 => E _ (by omega)), ⟨_, _, _, _, _, _, _, _, _, _, _, _, _, _, _, _, _, _, _, _, _, _, _, _, _, _, _, _, tm.trans hum⟩, hTP, hm6, hof, hox⟩ hP hD hS

end
