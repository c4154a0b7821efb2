/-! the law's cases: the acts -/
section
variable {p : Program} {l : Launch} {e : Env} {s : State} {m9 : MethodId} {below : List Frame} {meth : Method} {c9 : Code} {Q : State → Prop} {D : va_G} {A : Nat → Prop} {adK adV : Nat → Nat} {ad : Nat → Nat → Nat} {cy : Nat → Nat → ClassId} {ims pst : Nat → Option Nat} {b L i N : Nat} {xs : Nat → Int32} {bs : Nat → va_W} {H : Heap} {locs : List Loc} {cells slots : Nat} {ls : Array Slot}
set_option maxHeartbeats 8000000 in
set_option maxRecDepth 100000 in
theorem k_step (C : Cx p m9 c9 s A D adK adV ad cy ims pst b L xs) (hi : i + 6 ≤ L) (T : Top D s ad cy ims pst N bs) (hP : va_P D vwCl (bW N bs) H) (hD : va_D A (bW N bs)) (hS : va_S A s.heap H locs) (hl : lv_has ls 4 (lvL ad b i)) (hf : cells + 8 ≤ 600000 ∧ slots + 13200 ≤ 7302250)
    (kk : ∀ (N : Nat) (bs : Nat → va_W) (H : Heap) (locs : List Loc), Top D s ad cy ims pst N bs → va_P D vwCl (bW N bs) H → va_D A (bW N bs) → va_S A s.heap H locs → W p l e room_1 s m9 #[.ref b] below meth c9 H locs (cells + 8) (slots + 13200) Q (F0 m9 1115 ls [])) : W p l e room_1 s m9 #[.ref b] below meth c9 H locs cells slots Q (F0 m9 394 ls []) := by
  obtain ⟨m, c, nx, tn, R, P, A0, rls, bytes, len, fo, x, notes, nh, nr, nm, hour, broken, rung, grip, want, slips, worn, tape, sign, clause, clauses, S, w, im, imF, imX, imM, hN, b0, hBT, b2, hBRR, hBN, b5, hBH, hBO, hB8, hBP, hBS, hB11, hSc, hPs, hIm, hRu, hBM, hTP, hm6, hof, hox⟩ := T
  obtain ⟨S9, hA, hbA, hbl, hX, hL9, hF, hE9, hV9⟩ := id C
  obtain ⟨hx, hb, hml, hown, hts⟩ := id S9
  obtain ⟨k0, kLL, kTp, kRR, kS4, kW5, kH, kO, kW8, kW11, kM, kIm, kPs⟩ := id hF
  have hf9 : cells ≤ room_1.cells ∧ slots ≤ room_1.slots := ⟨Nat.le_trans (Nat.le_add_right _ _) hf.1, Nat.le_trans (Nat.le_add_right _ _) hf.2⟩
  obtain ⟨lg, rd, nxt, wrg, num, txt, mde, dep, lns, opn, opd, stk, tp, wd, wil, mov, brk, kpt, bhr, far, que, qud, onw, mvp, mvk, isf, sth, drx, b46⟩ := id hBM
  obtain ⟨jl, lh, ly, ru, pe, sb, ro, str, wt, tol, srr, sww, g1, g2, g3, bl, kl, hI, hW, hL, hWT, hBg, hhr, hNo⟩ := id hSc
  subst g3
  obtain ⟨md, b4⟩ := id hBN
  obtain ⟨pq, ph, pb, pr, pg, pw, pz, pk, hpb, hRP, hpq⟩ := id hPs
  have hn20 := hRP.2.1
  have hsx := hn20
  obtain ⟨v, nx1, c1, ah, ab, ar, ag, aw, az, ak, q1, S1, w1, rg1, hc, hm, hW1, hI1, hSt, hR1, hKQ⟩ := r_step  (qn := lh 0) (qp := pq nx) hRP hI hW hL (kPs nx hn20).2 (xs (i + 1)) (if xs (i + 2) = 0 then (0 : Int32) else 1)
  refine lv_aload_n hx hb dL_law_394 rfl (lv_at hl 2 rfl) ?_
  refine ld1 C hS hl hi dL_law_395 dL_law_396 dL_law_397 dL_law_398 dL_law_399 ?_
  refine ld2 C hS hl hi dL_law_400 dL_law_401 dL_law_402 dL_law_403 dL_law_404 ?_
  refine ldz C dL_law_405 dL_law_408 dL_law_409 dL_law_412 rfl rfl ?_
  obtain ⟨u0, hu0⟩ : ∃ X : va_W, X = cLL (ad 0) (cy 0) (ad 1 0) (ad 2 0) (ad 3 0) rls (nn m) ((ad 4) 0) ims pst (nn nx1) (nn c1) (ad 6 0) (ad 7 0) (ad 9 0) (ad 10 0) := ⟨_, rfl⟩
  obtain ⟨u5, hu5⟩ : ∃ X : va_W, X = cW (ad 5) (cy 5) (lh 0) hour broken rg1 grip want slips worn := ⟨_, rfl⟩
  obtain ⟨u20nx, hu20nx⟩ : ∃ X : va_W, X = cW (ad (20 + nx)) (cy (20 + nx)) q1 ah ab ar ag aw az ak := ⟨_, rfl⟩
  obtain ⟨Lc, hLc⟩ : ∃ X : List (Nat × List (ClassId × FieldType) × va_W × va_W), X = [(0, tLL (cy 0), bs 0, u0), (4, tSt (cy 4), bs 4, bs 4), (5, tW (cy 5), bs 5, u5), (jl, tLd ly, bs jl, bs jl), ((20 + nx), tW (cy (20 + nx)), bs (20 + nx), u20nx)] := ⟨_, rfl⟩
  have hnd : (Lc.map Prod.fst).Nodup := by rw [hLc]; show ([0, 4, 5, jl, (20 + nx)] : List Nat).Nodup; simp only [List.nodup_cons, List.mem_cons, List.not_mem_nil, or_false, not_or, List.nodup_nil, and_true, not_false_eq_true] <;> omega
  have hlt : ∀ x ∈ Lc, x.1 < N := by rw [hLc]; exact List.forall_mem_cons.mpr ⟨show 0 < N by omega, List.forall_mem_cons.mpr ⟨show 4 < N by omega, List.forall_mem_cons.mpr ⟨show 5 < N by omega, List.forall_mem_cons.mpr ⟨show jl < N by omega, List.forall_mem_cons.mpr ⟨show (20 + nx) < N by omega, fun _ h9 => absurd h9 List.not_mem_nil⟩⟩⟩⟩⟩
  have hkL : ∀ x ∈ Lc, va_K D vwCl x.2.1 s := by rw [hLc]; exact List.forall_mem_cons.mpr ⟨kLL, List.forall_mem_cons.mpr ⟨kS4, List.forall_mem_cons.mpr ⟨kW5, List.forall_mem_cons.mpr ⟨kl, List.forall_mem_cons.mpr ⟨(kPs nx hsx).1, fun _ h9 => absurd h9 List.not_mem_nil⟩⟩⟩⟩⟩
  have hbL : ∀ x ∈ Lc, bs x.1 = x.2.2.1 := by rw [hLc]; exact List.forall_mem_cons.mpr ⟨rfl, List.forall_mem_cons.mpr ⟨rfl, List.forall_mem_cons.mpr ⟨rfl, List.forall_mem_cons.mpr ⟨rfl, List.forall_mem_cons.mpr ⟨rfl, fun _ h9 => absurd h9 List.not_mem_nil⟩⟩⟩⟩⟩
  refine mbQ_i (As := [.int (xs (i + 1)), .int (if xs (i + 2) = 0 then (0 : Int32) else 1)]) (rest := []) Lc S9 k0 hP hD hS hA (c11_step (l := l) (D := D) (ad_this := (ad 0)) (cy_this := (cy 0)) (z_this_tape := (ad 1 0)) (z_this_ladderReader := (ad 2 0)) (z_this_ruleReader := (ad 3 0)) (z_this_rules := rls) (z_this_ruleCount := (nn m)) (z_this_images := ims) (z_this_past := pst) (z_this_pastNext := (nn nx)) (z_this_pastCount := (nn c)) (z_this_hours := (ad 6 0)) (z_this_outlook := (ad 7 0)) (z_this_paths := (ad 9 0)) (z_this_siege := (ad 10 0)) (ad_this_now := (ad 4)) (cy_this_now := (cy 4)) (z_this_now_force := fo) (z_this_now_x := x) (z_this_now_notes := notes) (z_this_now_noteHour := nh) (z_this_now_noteRung := nr) (z_this_now_noteMany := nm) (z_this_now_made := md) (ad_this_now_world := (ad 5)) (cy_this_now_world := (cy 5)) (z_this_now_world_hour := hour) (z_this_now_world_broken := broken) (z_this_now_world_rung := rung) (z_this_now_world_grip := grip) (z_this_now_world_want := want) (z_this_now_world_slips := slips) (z_this_now_world_worn := worn) (ad_this_now_world_ladder := lh) (cy_this_now_world_ladder := ly) (z_this_now_world_ladder_rungs := ru) (z_this_now_world_ladder_people := pe) (z_this_now_world_ladder_startBroken := sb) (z_this_now_world_ladder_room := ro) (z_this_now_world_ladder_strength := str) (z_this_now_world_ladder_weight := wt) (z_this_now_world_ladder_told := tol) (z_this_now_world_ladder_startRung := srr) (z_this_now_world_ladder_startWant := sww) (ad_this_pastAt := (ad (20 + nx))) (cy_this_pastAt := (cy (20 + nx))) (z_this_pastAt_ladder := (pq nx)) (z_this_pastAt_hour := (ph nx)) (z_this_pastAt_broken := (pb nx)) (z_this_pastAt_rung := (pr nx)) (z_this_pastAt_grip := (pg nx)) (z_this_pastAt_want := (pw nx)) (z_this_pastAt_slips := (pz nx)) (z_this_pastAt_worn := (pk nx)) (a1 := (xs (i + 1))) (a2 := (if xs (i + 2) = 0 then (0 : Int32) else 1)) (o_ret := v) (o_this_pastNext := (nn nx1)) (o_this_pastCount := (nn c1)) (o_this_now_world_rung := rg1) (o_this_pastAt_hour := ah) (o_this_pastAt_broken := ab) (o_this_pastAt_rung := ar) (o_this_pastAt_grip := ag) (o_this_pastAt_want := aw) (o_this_pastAt_slips := az) (o_this_pastAt_worn := ak) (o_link_this_pastAt := q1) hc) hnd hlt hkL hbL (by rw [hLc]; rfl) (by rw [hLc]; simp only [List.flatMap_cons, List.flatMap_nil, List.append_nil, List.append_assoc]; rw [b0, b4, b5, bl, (hpb nx hsx)]) (by rw [hLc]; simp only [List.flatMap_cons, List.flatMap_nil, List.append_nil, List.append_assoc]; rw [hu0, b4, hu5, bl, hu20nx]) (gdV mw_39_16 mw_39_17 mw_39_18 mw_1_2 mw_39_19) rfl rfl hd_f11_step ⟨Nat.le_of_ble_eq_true rfl, Nat.le_of_ble_eq_true rfl⟩ (ci := 11) (q0 := 0) rfl rfl rfl hl.1 rfl (Nat.le_of_ble_eq_true rfl) dL_law_413 hf9 (fun H locs hP hD hS => ?_)
  obtain ⟨bc, hbc⟩ : ∃ X, X = bsetL bs Lc := ⟨_, rfl⟩
  rw [← hbc] at hP hD
  have t0 : bc 0 = u0 := by rw [hbc]; exact bsetL_at (x := (0, tLL (cy 0), bs 0, u0)) hnd (by rw [hLc]; exact List.mem_of_getElem? (i := 0) rfl)
  have t1 : bc 4 = bs 4 := by rw [hbc]; exact bsetL_at (x := (4, tSt (cy 4), bs 4, bs 4)) hnd (by rw [hLc]; exact List.mem_of_getElem? (i := 1) rfl)
  have t2 : bc 5 = u5 := by rw [hbc]; exact bsetL_at (x := (5, tW (cy 5), bs 5, u5)) hnd (by rw [hLc]; exact List.mem_of_getElem? (i := 2) rfl)
  have t3 : bc jl = bs jl := by rw [hbc]; exact bsetL_at (x := (jl, tLd ly, bs jl, bs jl)) hnd (by rw [hLc]; exact List.mem_of_getElem? (i := 3) rfl)
  have t4 : bc (20 + nx) = u20nx := by rw [hbc]; exact bsetL_at (x := ((20 + nx), tW (cy (20 + nx)), bs (20 + nx), u20nx)) hnd (by rw [hLc]; exact List.mem_of_getElem? (i := 4) rfl)
  have E1 : ∀ j, (j ≠ 0 ∧ j ≠ 5 ∧ j ≠ (20 + nx)) → bc j = bs j := by
    intro j hj
    by_cases q1 : j = 4
    · rw [q1]; exact t1
    by_cases q3 : j = jl
    · rw [q3]; exact t3
    rw [hbc]
    exact bsetL_ne (by rw [hLc]; show j ∉ ([0, 4, 5, jl, (20 + nx)] : List Nat); simp only [List.mem_cons, List.not_mem_nil, or_false, not_or]; omega)
  refine lv_aload_n hx hb dL_law_416 rfl (lv_at hl 1 rfl) ?_
  refine ld1 C hS hl hi dL_law_417 dL_law_418 dL_law_419 dL_law_420 dL_law_421 ?_
  refine ld2 C hS hl hi dL_law_422 dL_law_423 dL_law_424 dL_law_425 dL_law_426 ?_
  refine ldz C dL_law_427 dL_law_430 dL_law_431 dL_law_434 rfl rfl ?_
  obtain ⟨um, hum⟩ : ∃ X : va_W, X = (cM (ad 46) (cy 46) tape len (nn m) sign lg clause clauses rd nxt wrg num txt mde dep lns opn opd stk tp wd S1 fo x wil mov brk w1 (nn c1) kpt bhr far que qud onw mvp mvk isf sth drx im imF imX imM) := ⟨_, rfl⟩
  have bm : bc 46 = _ := (E1 46 (by omega)).trans b46
  obtain ⟨Lm, hLm⟩ : ∃ X : List (Nat × List (ClassId × FieldType) × va_W × va_W), X = [(46, tM (cy 46), bc 46, um)] := ⟨_, rfl⟩
  have hnm : (Lm.map Prod.fst).Nodup := by rw [hLm]; show ([46] : List Nat).Nodup; decide
  refine mbQ_i (As := [.int (xs (i + 1)), .int (if xs (i + 2) = 0 then (0 : Int32) else 1)]) (rest := [.int v]) Lm S9 k0 hP hD hS hA (c12_step (l := l) (D := D) (ad := (ad 46)) (cy := (cy 46)) (z_tape := tape) (z_taped := len) (z_rules := (nn m)) (z_sign := sign) (z_length := lg) (z_clause := clause) (z_clauses := clauses) (z_read := rd) (z_next := nxt) (z_wrong := wrg) (z_number := num) (z_text := txt) (z_made := mde) (z_deep := dep) (z_lines := lns) (z_open := opn) (z_opened := opd) (z_stack := stk) (z_top := tp) (z_word := wd) (z_said := S) (z_force := fo) (z_x := x) (z_will := wil) (z_moved := mov) (z_broke := brk) (z_wasSaid := w) (z_undone := (nn c)) (z_kept := kpt) (z_breakHour := bhr) (z_far := far) (z_queue := que) (z_queued := qud) (z_isOnWay := onw) (z_movePerson := mvp) (z_moveKind := mvk) (z_isFit := isf) (z_standThen := sth) (z_drawX := drx) (z_images := im) (z_imageForce := imF) (z_imageX := imX) (z_isMade := imM) (a1 := (xs (i + 1))) (a2 := (if xs (i + 2) = 0 then (0 : Int32) else 1)) (o_ret := v) (o_said := S1) (o_wasSaid := w1) (o_undone := (nn c1)) hm) hnm (by rw [hLm]; exact List.forall_mem_cons.mpr ⟨show 46 < N by omega, fun _ h9 => absurd h9 List.not_mem_nil⟩) (by rw [hLm]; exact List.forall_mem_cons.mpr ⟨kM, fun _ h9 => absurd h9 List.not_mem_nil⟩) (by rw [hLm]; exact List.forall_mem_cons.mpr ⟨rfl, fun _ h9 => absurd h9 List.not_mem_nil⟩) (by rw [hLm]; rfl) (by rw [hLm]; simp only [List.flatMap_cons, List.flatMap_nil, List.append_nil, List.append_assoc]; rw [bm]) (by rw [hLm]; simp only [List.flatMap_cons, List.flatMap_nil, List.append_nil, List.append_assoc]; rw [hum]) (gdV mw_40_1 mw_40_2 mw_40_3 mw_1_5 mw_40_4) rfl rfl hd_f12_step ⟨Nat.le_of_ble_eq_true rfl, Nat.le_of_ble_eq_true rfl⟩ (ci := 12) (q0 := 0) rfl rfl rfl hl.1 rfl (Nat.le_of_ble_eq_true rfl) dL_law_435 hf9 (fun H locs hP hD hS => ?_)
  obtain ⟨bn, hbn⟩ : ∃ X, X = bsetL bc Lm := ⟨_, rfl⟩
  rw [← hbn] at hP hD
  have tm : bn 46 = um := by rw [hbn]; exact bsetL_at (x := (46, tM (cy 46), bc 46, um)) hnm (by rw [hLm]; exact List.mem_of_getElem? (i := 0) rfl)
  have E2 : ∀ j, j ≠ 46 → bn j = bc j := by
    intro j hj
    rw [hbn]
    exact bsetL_ne (by rw [hLm]; show j ∉ ([46] : List Nat); simp only [List.mem_cons, List.not_mem_nil, or_false]; exact hj)
  have E : ∀ j, (j ≠ 46 ∧ j ≠ 0 ∧ j ≠ 5 ∧ j ≠ (20 + nx)) → bn j = bs j := fun j hj => (E2 j (by omega)).trans (E1 j (by omega))
  have s0 : bn 0 = u0 := (E2 _ (by omega)).trans t0
  have s2 : bn 5 = u5 := (E2 _ (by omega)).trans t2
  have s4 : bn (20 + nx) = u20nx := (E2 _ (by omega)).trans t4
  refine lv_icmp_eq (tgt := 1115) hx hb dL_law_438 rfl (fun _ => ?_) (fun c8 => absurd rfl c8)
  refine W.widen (k := cells + 8) (n := slots + 13200) (Nat.le_add_right _ _) (Nat.le_add_right _ _) ?_
  have EL : ∀ j, 47 ≤ j → j < N → bn j = bs j := fun j h1 h2 => E j (by omega)
  exact kk N bn H locs ⟨m, c1, nx1, tn, R, P, (lh 0), rls, bytes, len, fo, x, notes, nh, nr, nm, hour, broken, rg1, grip, want, slips, worn, tape, sign, clause, clauses, S1, w1, im, imF, imX, imM, hN, (s0.trans hu0), hBT.congr (E 1 (by omega)), (E 2 (by omega)).trans b2, hBRR.congr (E 3 (by omega)), hBN.congr (E 4 (by omega)), (s2.trans hu5), hBH.congr (E 6 (by omega)), hBO.congr (E 7 (by omega)), hB8.congr (E 8 (by omega)), hBP.congr (E 9 (by omega)), hBS.congr (E 10 (by omega)), hB11.congr (E 11 (by omega)), (hSc.act hW1 hI1 hSt hhr).congr (Nat.le_refl _) EL, BPs.mk' hpb (s4.trans hu20nx) (fun k h1 h2 => E _ (by omega)) hR1 (PQ_act hn20 hpq hKQ hhr), hIm.congr (Nat.le_refl _) (Nat.le_refl _) (fun k hk => E _ (by omega)) EL, hRu.congr (fun j hj => E _ (by omega)) hm6, ⟨_, _, _, _, _, _, _, _, _, _, _, _, _, _, _, _, _, _, _, _, _, _, _, _, _, _, _, _, tm.trans hum⟩, hTP, hm6, hof, hox⟩ hP hD hS

set_option maxHeartbeats 8000000 in
set_option maxRecDepth 100000 in
theorem k_pass (C : Cx p m9 c9 s A D adK adV ad cy ims pst b L xs) (hi : i + 6 ≤ L) (T : Top D s ad cy ims pst N bs) (hP : va_P D vwCl (bW N bs) H) (hD : va_D A (bW N bs)) (hS : va_S A s.heap H locs) (hl : lv_has ls 4 (lvL ad b i)) (hf : cells + 8 ≤ 600000 ∧ slots + 13200 ≤ 7302250)
    (kk : ∀ (N : Nat) (bs : Nat → va_W) (H : Heap) (locs : List Loc), Top D s ad cy ims pst N bs → va_P D vwCl (bW N bs) H → va_D A (bW N bs) → va_S A s.heap H locs → W p l e room_1 s m9 #[.ref b] below meth c9 H locs (cells + 8) (slots + 13200) Q (F0 m9 1115 ls [])) : W p l e room_1 s m9 #[.ref b] below meth c9 H locs cells slots Q (F0 m9 443 ls []) := by
  obtain ⟨m, c, nx, tn, R, P, A0, rls, bytes, len, fo, x, notes, nh, nr, nm, hour, broken, rung, grip, want, slips, worn, tape, sign, clause, clauses, S, w, im, imF, imX, imM, hN, b0, hBT, b2, hBRR, hBN, b5, hBH, hBO, hB8, hBP, hBS, hB11, hSc, hPs, hIm, hRu, hBM, hTP, hm6, hof, hox⟩ := T
  obtain ⟨S9, hA, hbA, hbl, hX, hL9, hF, hE9, hV9⟩ := id C
  obtain ⟨hx, hb, hml, hown, hts⟩ := id S9
  obtain ⟨k0, kLL, kTp, kRR, kS4, kW5, kH, kO, kW8, kW11, kM, kIm, kPs⟩ := id hF
  have hf9 : cells ≤ room_1.cells ∧ slots ≤ room_1.slots := ⟨Nat.le_trans (Nat.le_add_right _ _) hf.1, Nat.le_trans (Nat.le_add_right _ _) hf.2⟩
  obtain ⟨lg, rd, nxt, wrg, num, txt, mde, dep, lns, opn, opd, stk, tp, wd, wil, mov, brk, kpt, bhr, far, que, qud, onw, mvp, mvk, isf, sth, drx, b46⟩ := id hBM
  obtain ⟨jl, lh, ly, ru, pe, sb, ro, str, wt, tol, srr, sww, g1, g2, g3, bl, kl, hI, hW, hL, hWT, hBg, hhr, hNo⟩ := id hSc
  subst g3
  obtain ⟨md, b4⟩ := id hBN
  obtain ⟨pq, ph, pb, pr, pg, pw, pz, pk, hpb, hRP, hpq⟩ := id hPs
  have hn20 := hRP.2.1
  have hsx := hn20
  obtain ⟨v, nx1, c1, ah, ab, ar, ag, aw, az, ak, q1, S1, w1, rg1, hc, hm, hW1, hI1, hSt, hR1, hKQ⟩ := r_pass  (qn := lh 0) (qp := pq nx) hRP hI hW hL (kPs nx hn20).2 (xs (i + 1)) (xs (i + 2))
  refine lv_aload_n hx hb dL_law_443 rfl (lv_at hl 2 rfl) ?_
  refine ld1 C hS hl hi dL_law_444 dL_law_445 dL_law_446 dL_law_447 dL_law_448 ?_
  refine ld2 C hS hl hi dL_law_449 dL_law_450 dL_law_451 dL_law_452 dL_law_453 ?_
  obtain ⟨u0, hu0⟩ : ∃ X : va_W, X = cLL (ad 0) (cy 0) (ad 1 0) (ad 2 0) (ad 3 0) rls (nn m) ((ad 4) 0) ims pst (nn nx1) (nn c1) (ad 6 0) (ad 7 0) (ad 9 0) (ad 10 0) := ⟨_, rfl⟩
  obtain ⟨u5, hu5⟩ : ∃ X : va_W, X = cW (ad 5) (cy 5) (lh 0) hour broken rg1 grip want slips worn := ⟨_, rfl⟩
  obtain ⟨u20nx, hu20nx⟩ : ∃ X : va_W, X = cW (ad (20 + nx)) (cy (20 + nx)) q1 ah ab ar ag aw az ak := ⟨_, rfl⟩
  obtain ⟨Lc, hLc⟩ : ∃ X : List (Nat × List (ClassId × FieldType) × va_W × va_W), X = [(0, tLL (cy 0), bs 0, u0), (4, tSt (cy 4), bs 4, bs 4), (5, tW (cy 5), bs 5, u5), (jl, tLd ly, bs jl, bs jl), ((20 + nx), tW (cy (20 + nx)), bs (20 + nx), u20nx)] := ⟨_, rfl⟩
  have hnd : (Lc.map Prod.fst).Nodup := by rw [hLc]; show ([0, 4, 5, jl, (20 + nx)] : List Nat).Nodup; simp only [List.nodup_cons, List.mem_cons, List.not_mem_nil, or_false, not_or, List.nodup_nil, and_true, not_false_eq_true] <;> omega
  have hlt : ∀ x ∈ Lc, x.1 < N := by rw [hLc]; exact List.forall_mem_cons.mpr ⟨show 0 < N by omega, List.forall_mem_cons.mpr ⟨show 4 < N by omega, List.forall_mem_cons.mpr ⟨show 5 < N by omega, List.forall_mem_cons.mpr ⟨show jl < N by omega, List.forall_mem_cons.mpr ⟨show (20 + nx) < N by omega, fun _ h9 => absurd h9 List.not_mem_nil⟩⟩⟩⟩⟩
  have hkL : ∀ x ∈ Lc, va_K D vwCl x.2.1 s := by rw [hLc]; exact List.forall_mem_cons.mpr ⟨kLL, List.forall_mem_cons.mpr ⟨kS4, List.forall_mem_cons.mpr ⟨kW5, List.forall_mem_cons.mpr ⟨kl, List.forall_mem_cons.mpr ⟨(kPs nx hsx).1, fun _ h9 => absurd h9 List.not_mem_nil⟩⟩⟩⟩⟩
  have hbL : ∀ x ∈ Lc, bs x.1 = x.2.2.1 := by rw [hLc]; exact List.forall_mem_cons.mpr ⟨rfl, List.forall_mem_cons.mpr ⟨rfl, List.forall_mem_cons.mpr ⟨rfl, List.forall_mem_cons.mpr ⟨rfl, List.forall_mem_cons.mpr ⟨rfl, fun _ h9 => absurd h9 List.not_mem_nil⟩⟩⟩⟩⟩
  refine mbQ_i (As := [.int (xs (i + 1)), .int (xs (i + 2))]) (rest := []) Lc S9 k0 hP hD hS hA (c11_pass (l := l) (D := D) (ad_this := (ad 0)) (cy_this := (cy 0)) (z_this_tape := (ad 1 0)) (z_this_ladderReader := (ad 2 0)) (z_this_ruleReader := (ad 3 0)) (z_this_rules := rls) (z_this_ruleCount := (nn m)) (z_this_images := ims) (z_this_past := pst) (z_this_pastNext := (nn nx)) (z_this_pastCount := (nn c)) (z_this_hours := (ad 6 0)) (z_this_outlook := (ad 7 0)) (z_this_paths := (ad 9 0)) (z_this_siege := (ad 10 0)) (ad_this_now := (ad 4)) (cy_this_now := (cy 4)) (z_this_now_force := fo) (z_this_now_x := x) (z_this_now_notes := notes) (z_this_now_noteHour := nh) (z_this_now_noteRung := nr) (z_this_now_noteMany := nm) (z_this_now_made := md) (ad_this_now_world := (ad 5)) (cy_this_now_world := (cy 5)) (z_this_now_world_hour := hour) (z_this_now_world_broken := broken) (z_this_now_world_rung := rung) (z_this_now_world_grip := grip) (z_this_now_world_want := want) (z_this_now_world_slips := slips) (z_this_now_world_worn := worn) (ad_this_now_world_ladder := lh) (cy_this_now_world_ladder := ly) (z_this_now_world_ladder_rungs := ru) (z_this_now_world_ladder_people := pe) (z_this_now_world_ladder_startBroken := sb) (z_this_now_world_ladder_room := ro) (z_this_now_world_ladder_strength := str) (z_this_now_world_ladder_weight := wt) (z_this_now_world_ladder_told := tol) (z_this_now_world_ladder_startRung := srr) (z_this_now_world_ladder_startWant := sww) (ad_this_pastAt := (ad (20 + nx))) (cy_this_pastAt := (cy (20 + nx))) (z_this_pastAt_ladder := (pq nx)) (z_this_pastAt_hour := (ph nx)) (z_this_pastAt_broken := (pb nx)) (z_this_pastAt_rung := (pr nx)) (z_this_pastAt_grip := (pg nx)) (z_this_pastAt_want := (pw nx)) (z_this_pastAt_slips := (pz nx)) (z_this_pastAt_worn := (pk nx)) (a1 := (xs (i + 1))) (a2 := (xs (i + 2))) (o_ret := v) (o_this_pastNext := (nn nx1)) (o_this_pastCount := (nn c1)) (o_this_now_world_rung := rg1) (o_this_pastAt_hour := ah) (o_this_pastAt_broken := ab) (o_this_pastAt_rung := ar) (o_this_pastAt_grip := ag) (o_this_pastAt_want := aw) (o_this_pastAt_slips := az) (o_this_pastAt_worn := ak) (o_link_this_pastAt := q1) hc) hnd hlt hkL hbL (by rw [hLc]; rfl) (by rw [hLc]; simp only [List.flatMap_cons, List.flatMap_nil, List.append_nil, List.append_assoc]; rw [b0, b4, b5, bl, (hpb nx hsx)]) (by rw [hLc]; simp only [List.flatMap_cons, List.flatMap_nil, List.append_nil, List.append_assoc]; rw [hu0, b4, hu5, bl, hu20nx]) (gdV mw_40_9 mw_40_10 mw_40_11 mw_1_2 mw_40_12) rfl rfl hd_f11_pass ⟨Nat.le_of_ble_eq_true rfl, Nat.le_of_ble_eq_true rfl⟩ (ci := 11) (q0 := 0) rfl rfl rfl hl.1 rfl (Nat.le_of_ble_eq_true rfl) dL_law_454 hf9 (fun H locs hP hD hS => ?_)
  obtain ⟨bc, hbc⟩ : ∃ X, X = bsetL bs Lc := ⟨_, rfl⟩
  rw [← hbc] at hP hD
  have t0 : bc 0 = u0 := by rw [hbc]; exact bsetL_at (x := (0, tLL (cy 0), bs 0, u0)) hnd (by rw [hLc]; exact List.mem_of_getElem? (i := 0) rfl)
  have t1 : bc 4 = bs 4 := by rw [hbc]; exact bsetL_at (x := (4, tSt (cy 4), bs 4, bs 4)) hnd (by rw [hLc]; exact List.mem_of_getElem? (i := 1) rfl)
  have t2 : bc 5 = u5 := by rw [hbc]; exact bsetL_at (x := (5, tW (cy 5), bs 5, u5)) hnd (by rw [hLc]; exact List.mem_of_getElem? (i := 2) rfl)
  have t3 : bc jl = bs jl := by rw [hbc]; exact bsetL_at (x := (jl, tLd ly, bs jl, bs jl)) hnd (by rw [hLc]; exact List.mem_of_getElem? (i := 3) rfl)
  have t4 : bc (20 + nx) = u20nx := by rw [hbc]; exact bsetL_at (x := ((20 + nx), tW (cy (20 + nx)), bs (20 + nx), u20nx)) hnd (by rw [hLc]; exact List.mem_of_getElem? (i := 4) rfl)
  have E1 : ∀ j, (j ≠ 0 ∧ j ≠ 5 ∧ j ≠ (20 + nx)) → bc j = bs j := by
    intro j hj
    by_cases q1 : j = 4
    · rw [q1]; exact t1
    by_cases q3 : j = jl
    · rw [q3]; exact t3
    rw [hbc]
    exact bsetL_ne (by rw [hLc]; show j ∉ ([0, 4, 5, jl, (20 + nx)] : List Nat); simp only [List.mem_cons, List.not_mem_nil, or_false, not_or]; omega)
  refine lv_aload_n hx hb dL_law_457 rfl (lv_at hl 1 rfl) ?_
  refine ld1 C hS hl hi dL_law_458 dL_law_459 dL_law_460 dL_law_461 dL_law_462 ?_
  refine ld2 C hS hl hi dL_law_463 dL_law_464 dL_law_465 dL_law_466 dL_law_467 ?_
  obtain ⟨um, hum⟩ : ∃ X : va_W, X = (cM (ad 46) (cy 46) tape len (nn m) sign lg clause clauses rd nxt wrg num txt mde dep lns opn opd stk tp wd S1 fo x wil mov brk w1 (nn c1) kpt bhr far que qud onw mvp mvk isf sth drx im imF imX imM) := ⟨_, rfl⟩
  have bm : bc 46 = _ := (E1 46 (by omega)).trans b46
  obtain ⟨Lm, hLm⟩ : ∃ X : List (Nat × List (ClassId × FieldType) × va_W × va_W), X = [(46, tM (cy 46), bc 46, um)] := ⟨_, rfl⟩
  have hnm : (Lm.map Prod.fst).Nodup := by rw [hLm]; show ([46] : List Nat).Nodup; decide
  refine mbQ_i (As := [.int (xs (i + 1)), .int (xs (i + 2))]) (rest := [.int v]) Lm S9 k0 hP hD hS hA (c12_pass (l := l) (D := D) (ad := (ad 46)) (cy := (cy 46)) (z_tape := tape) (z_taped := len) (z_rules := (nn m)) (z_sign := sign) (z_length := lg) (z_clause := clause) (z_clauses := clauses) (z_read := rd) (z_next := nxt) (z_wrong := wrg) (z_number := num) (z_text := txt) (z_made := mde) (z_deep := dep) (z_lines := lns) (z_open := opn) (z_opened := opd) (z_stack := stk) (z_top := tp) (z_word := wd) (z_said := S) (z_force := fo) (z_x := x) (z_will := wil) (z_moved := mov) (z_broke := brk) (z_wasSaid := w) (z_undone := (nn c)) (z_kept := kpt) (z_breakHour := bhr) (z_far := far) (z_queue := que) (z_queued := qud) (z_isOnWay := onw) (z_movePerson := mvp) (z_moveKind := mvk) (z_isFit := isf) (z_standThen := sth) (z_drawX := drx) (z_images := im) (z_imageForce := imF) (z_imageX := imX) (z_isMade := imM) (a1 := (xs (i + 1))) (a2 := (xs (i + 2))) (o_ret := v) (o_said := S1) (o_wasSaid := w1) (o_undone := (nn c1)) hm) hnm (by rw [hLm]; exact List.forall_mem_cons.mpr ⟨show 46 < N by omega, fun _ h9 => absurd h9 List.not_mem_nil⟩) (by rw [hLm]; exact List.forall_mem_cons.mpr ⟨kM, fun _ h9 => absurd h9 List.not_mem_nil⟩) (by rw [hLm]; exact List.forall_mem_cons.mpr ⟨rfl, fun _ h9 => absurd h9 List.not_mem_nil⟩) (by rw [hLm]; rfl) (by rw [hLm]; simp only [List.flatMap_cons, List.flatMap_nil, List.append_nil, List.append_assoc]; rw [bm]) (by rw [hLm]; simp only [List.flatMap_cons, List.flatMap_nil, List.append_nil, List.append_assoc]; rw [hum]) (gdV mw_40_19 mw_40_20 mw_40_21 mw_1_5 mw_40_22) rfl rfl hd_f12_pass ⟨Nat.le_of_ble_eq_true rfl, Nat.le_of_ble_eq_true rfl⟩ (ci := 12) (q0 := 0) rfl rfl rfl hl.1 rfl (Nat.le_of_ble_eq_true rfl) dL_law_468 hf9 (fun H locs hP hD hS => ?_)
  obtain ⟨bn, hbn⟩ : ∃ X, X = bsetL bc Lm := ⟨_, rfl⟩
  rw [← hbn] at hP hD
  have tm : bn 46 = um := by rw [hbn]; exact bsetL_at (x := (46, tM (cy 46), bc 46, um)) hnm (by rw [hLm]; exact List.mem_of_getElem? (i := 0) rfl)
  have E2 : ∀ j, j ≠ 46 → bn j = bc j := by
    intro j hj
    rw [hbn]
    exact bsetL_ne (by rw [hLm]; show j ∉ ([46] : List Nat); simp only [List.mem_cons, List.not_mem_nil, or_false]; exact hj)
  have E : ∀ j, (j ≠ 46 ∧ j ≠ 0 ∧ j ≠ 5 ∧ j ≠ (20 + nx)) → bn j = bs j := fun j hj => (E2 j (by omega)).trans (E1 j (by omega))
  have s0 : bn 0 = u0 := (E2 _ (by omega)).trans t0
  have s2 : bn 5 = u5 := (E2 _ (by omega)).trans t2
  have s4 : bn (20 + nx) = u20nx := (E2 _ (by omega)).trans t4
  refine lv_icmp_eq (tgt := 1115) hx hb dL_law_471 rfl (fun _ => ?_) (fun c8 => absurd rfl c8)
  refine W.widen (k := cells + 8) (n := slots + 13200) (Nat.le_add_right _ _) (Nat.le_add_right _ _) ?_
  have EL : ∀ j, 47 ≤ j → j < N → bn j = bs j := fun j h1 h2 => E j (by omega)
  exact kk N bn H locs ⟨m, c1, nx1, tn, R, P, (lh 0), rls, bytes, len, fo, x, notes, nh, nr, nm, hour, broken, rg1, grip, want, slips, worn, tape, sign, clause, clauses, S1, w1, im, imF, imX, imM, hN, (s0.trans hu0), hBT.congr (E 1 (by omega)), (E 2 (by omega)).trans b2, hBRR.congr (E 3 (by omega)), hBN.congr (E 4 (by omega)), (s2.trans hu5), hBH.congr (E 6 (by omega)), hBO.congr (E 7 (by omega)), hB8.congr (E 8 (by omega)), hBP.congr (E 9 (by omega)), hBS.congr (E 10 (by omega)), hB11.congr (E 11 (by omega)), (hSc.act hW1 hI1 hSt hhr).congr (Nat.le_refl _) EL, BPs.mk' hpb (s4.trans hu20nx) (fun k h1 h2 => E _ (by omega)) hR1 (PQ_act hn20 hpq hKQ hhr), hIm.congr (Nat.le_refl _) (Nat.le_refl _) (fun k hk => E _ (by omega)) EL, hRu.congr (fun j hj => E _ (by omega)) hm6, ⟨_, _, _, _, _, _, _, _, _, _, _, _, _, _, _, _, _, _, _, _, _, _, _, _, _, _, _, _, tm.trans hum⟩, hTP, hm6, hof, hox⟩ hP hD hS

set_option maxHeartbeats 8000000 in
set_option maxRecDepth 100000 in
theorem k_mend (C : Cx p m9 c9 s A D adK adV ad cy ims pst b L xs) (hi : i + 6 ≤ L) (T : Top D s ad cy ims pst N bs) (hP : va_P D vwCl (bW N bs) H) (hD : va_D A (bW N bs)) (hS : va_S A s.heap H locs) (hl : lv_has ls 4 (lvL ad b i)) (hf : cells + 8 ≤ 600000 ∧ slots + 13200 ≤ 7302250)
    (kk : ∀ (N : Nat) (bs : Nat → va_W) (H : Heap) (locs : List Loc), Top D s ad cy ims pst N bs → va_P D vwCl (bW N bs) H → va_D A (bW N bs) → va_S A s.heap H locs → W p l e room_1 s m9 #[.ref b] below meth c9 H locs (cells + 8) (slots + 13200) Q (F0 m9 1115 ls [])) : W p l e room_1 s m9 #[.ref b] below meth c9 H locs cells slots Q (F0 m9 476 ls []) := by
  obtain ⟨m, c, nx, tn, R, P, A0, rls, bytes, len, fo, x, notes, nh, nr, nm, hour, broken, rung, grip, want, slips, worn, tape, sign, clause, clauses, S, w, im, imF, imX, imM, hN, b0, hBT, b2, hBRR, hBN, b5, hBH, hBO, hB8, hBP, hBS, hB11, hSc, hPs, hIm, hRu, hBM, hTP, hm6, hof, hox⟩ := T
  obtain ⟨S9, hA, hbA, hbl, hX, hL9, hF, hE9, hV9⟩ := id C
  obtain ⟨hx, hb, hml, hown, hts⟩ := id S9
  obtain ⟨k0, kLL, kTp, kRR, kS4, kW5, kH, kO, kW8, kW11, kM, kIm, kPs⟩ := id hF
  have hf9 : cells ≤ room_1.cells ∧ slots ≤ room_1.slots := ⟨Nat.le_trans (Nat.le_add_right _ _) hf.1, Nat.le_trans (Nat.le_add_right _ _) hf.2⟩
  obtain ⟨lg, rd, nxt, wrg, num, txt, mde, dep, lns, opn, opd, stk, tp, wd, wil, mov, brk, kpt, bhr, far, que, qud, onw, mvp, mvk, isf, sth, drx, b46⟩ := id hBM
  obtain ⟨jl, lh, ly, ru, pe, sb, ro, str, wt, tol, srr, sww, g1, g2, g3, bl, kl, hI, hW, hL, hWT, hBg, hhr, hNo⟩ := id hSc
  subst g3
  obtain ⟨md, b4⟩ := id hBN
  obtain ⟨pq, ph, pb, pr, pg, pw, pz, pk, hpb, hRP, hpq⟩ := id hPs
  have hn20 := hRP.2.1
  have hsx := hn20
  obtain ⟨v, nx1, c1, ah, ab, ar, ag, aw, az, ak, q1, S1, w1, br1, wn1, hc, hm, hW1, hI1, hSt, hR1, hKQ⟩ := r_mend  (qn := lh 0) (qp := pq nx) hRP hI hW hL (kPs nx hn20).2 (xs (i + 1))
  refine lv_aload_n hx hb dL_law_476 rfl (lv_at hl 2 rfl) ?_
  refine ld1 C hS hl hi dL_law_477 dL_law_478 dL_law_479 dL_law_480 dL_law_481 ?_
  obtain ⟨u0, hu0⟩ : ∃ X : va_W, X = cLL (ad 0) (cy 0) (ad 1 0) (ad 2 0) (ad 3 0) rls (nn m) ((ad 4) 0) ims pst (nn nx1) (nn c1) (ad 6 0) (ad 7 0) (ad 9 0) (ad 10 0) := ⟨_, rfl⟩
  obtain ⟨u5, hu5⟩ : ∃ X : va_W, X = cW (ad 5) (cy 5) (lh 0) hour br1 rung grip want slips wn1 := ⟨_, rfl⟩
  obtain ⟨u20nx, hu20nx⟩ : ∃ X : va_W, X = cW (ad (20 + nx)) (cy (20 + nx)) q1 ah ab ar ag aw az ak := ⟨_, rfl⟩
  obtain ⟨Lc, hLc⟩ : ∃ X : List (Nat × List (ClassId × FieldType) × va_W × va_W), X = [(0, tLL (cy 0), bs 0, u0), (4, tSt (cy 4), bs 4, bs 4), (5, tW (cy 5), bs 5, u5), (jl, tLd ly, bs jl, bs jl), ((20 + nx), tW (cy (20 + nx)), bs (20 + nx), u20nx)] := ⟨_, rfl⟩
  have hnd : (Lc.map Prod.fst).Nodup := by rw [hLc]; show ([0, 4, 5, jl, (20 + nx)] : List Nat).Nodup; simp only [List.nodup_cons, List.mem_cons, List.not_mem_nil, or_false, not_or, List.nodup_nil, and_true, not_false_eq_true] <;> omega
  have hlt : ∀ x ∈ Lc, x.1 < N := by rw [hLc]; exact List.forall_mem_cons.mpr ⟨show 0 < N by omega, List.forall_mem_cons.mpr ⟨show 4 < N by omega, List.forall_mem_cons.mpr ⟨show 5 < N by omega, List.forall_mem_cons.mpr ⟨show jl < N by omega, List.forall_mem_cons.mpr ⟨show (20 + nx) < N by omega, fun _ h9 => absurd h9 List.not_mem_nil⟩⟩⟩⟩⟩
  have hkL : ∀ x ∈ Lc, va_K D vwCl x.2.1 s := by rw [hLc]; exact List.forall_mem_cons.mpr ⟨kLL, List.forall_mem_cons.mpr ⟨kS4, List.forall_mem_cons.mpr ⟨kW5, List.forall_mem_cons.mpr ⟨kl, List.forall_mem_cons.mpr ⟨(kPs nx hsx).1, fun _ h9 => absurd h9 List.not_mem_nil⟩⟩⟩⟩⟩
  have hbL : ∀ x ∈ Lc, bs x.1 = x.2.2.1 := by rw [hLc]; exact List.forall_mem_cons.mpr ⟨rfl, List.forall_mem_cons.mpr ⟨rfl, List.forall_mem_cons.mpr ⟨rfl, List.forall_mem_cons.mpr ⟨rfl, List.forall_mem_cons.mpr ⟨rfl, fun _ h9 => absurd h9 List.not_mem_nil⟩⟩⟩⟩⟩
  refine mbQ_i (As := [.int (xs (i + 1))]) (rest := []) Lc S9 k0 hP hD hS hA (c11_mend (l := l) (D := D) (ad_this := (ad 0)) (cy_this := (cy 0)) (z_this_tape := (ad 1 0)) (z_this_ladderReader := (ad 2 0)) (z_this_ruleReader := (ad 3 0)) (z_this_rules := rls) (z_this_ruleCount := (nn m)) (z_this_images := ims) (z_this_past := pst) (z_this_pastNext := (nn nx)) (z_this_pastCount := (nn c)) (z_this_hours := (ad 6 0)) (z_this_outlook := (ad 7 0)) (z_this_paths := (ad 9 0)) (z_this_siege := (ad 10 0)) (ad_this_now := (ad 4)) (cy_this_now := (cy 4)) (z_this_now_force := fo) (z_this_now_x := x) (z_this_now_notes := notes) (z_this_now_noteHour := nh) (z_this_now_noteRung := nr) (z_this_now_noteMany := nm) (z_this_now_made := md) (ad_this_now_world := (ad 5)) (cy_this_now_world := (cy 5)) (z_this_now_world_hour := hour) (z_this_now_world_broken := broken) (z_this_now_world_rung := rung) (z_this_now_world_grip := grip) (z_this_now_world_want := want) (z_this_now_world_slips := slips) (z_this_now_world_worn := worn) (ad_this_now_world_ladder := lh) (cy_this_now_world_ladder := ly) (z_this_now_world_ladder_rungs := ru) (z_this_now_world_ladder_people := pe) (z_this_now_world_ladder_startBroken := sb) (z_this_now_world_ladder_room := ro) (z_this_now_world_ladder_strength := str) (z_this_now_world_ladder_weight := wt) (z_this_now_world_ladder_told := tol) (z_this_now_world_ladder_startRung := srr) (z_this_now_world_ladder_startWant := sww) (ad_this_pastAt := (ad (20 + nx))) (cy_this_pastAt := (cy (20 + nx))) (z_this_pastAt_ladder := (pq nx)) (z_this_pastAt_hour := (ph nx)) (z_this_pastAt_broken := (pb nx)) (z_this_pastAt_rung := (pr nx)) (z_this_pastAt_grip := (pg nx)) (z_this_pastAt_want := (pw nx)) (z_this_pastAt_slips := (pz nx)) (z_this_pastAt_worn := (pk nx)) (a1 := (xs (i + 1))) (o_ret := v) (o_this_pastNext := (nn nx1)) (o_this_pastCount := (nn c1)) (o_this_now_world_broken := br1) (o_this_now_world_worn := wn1) (o_this_pastAt_hour := ah) (o_this_pastAt_broken := ab) (o_this_pastAt_rung := ar) (o_this_pastAt_grip := ag) (o_this_pastAt_want := aw) (o_this_pastAt_slips := az) (o_this_pastAt_worn := ak) (o_link_this_pastAt := q1) hc) hnd hlt hkL hbL (by rw [hLc]; rfl) (by rw [hLc]; simp only [List.flatMap_cons, List.flatMap_nil, List.append_nil, List.append_assoc]; rw [b0, b4, b5, bl, (hpb nx hsx)]) (by rw [hLc]; simp only [List.flatMap_cons, List.flatMap_nil, List.append_nil, List.append_assoc]; rw [hu0, b4, hu5, bl, hu20nx]) (gdV mw_41_7 mw_41_8 mw_41_9 mw_1_2 mw_41_10) rfl rfl hd_f11_mend ⟨Nat.le_of_ble_eq_true rfl, Nat.le_of_ble_eq_true rfl⟩ (ci := 11) (q0 := 0) rfl rfl rfl hl.1 rfl (Nat.le_of_ble_eq_true rfl) dL_law_482 hf9 (fun H locs hP hD hS => ?_)
  obtain ⟨bc, hbc⟩ : ∃ X, X = bsetL bs Lc := ⟨_, rfl⟩
  rw [← hbc] at hP hD
  have t0 : bc 0 = u0 := by rw [hbc]; exact bsetL_at (x := (0, tLL (cy 0), bs 0, u0)) hnd (by rw [hLc]; exact List.mem_of_getElem? (i := 0) rfl)
  have t1 : bc 4 = bs 4 := by rw [hbc]; exact bsetL_at (x := (4, tSt (cy 4), bs 4, bs 4)) hnd (by rw [hLc]; exact List.mem_of_getElem? (i := 1) rfl)
  have t2 : bc 5 = u5 := by rw [hbc]; exact bsetL_at (x := (5, tW (cy 5), bs 5, u5)) hnd (by rw [hLc]; exact List.mem_of_getElem? (i := 2) rfl)
  have t3 : bc jl = bs jl := by rw [hbc]; exact bsetL_at (x := (jl, tLd ly, bs jl, bs jl)) hnd (by rw [hLc]; exact List.mem_of_getElem? (i := 3) rfl)
  have t4 : bc (20 + nx) = u20nx := by rw [hbc]; exact bsetL_at (x := ((20 + nx), tW (cy (20 + nx)), bs (20 + nx), u20nx)) hnd (by rw [hLc]; exact List.mem_of_getElem? (i := 4) rfl)
  have E1 : ∀ j, (j ≠ 0 ∧ j ≠ 5 ∧ j ≠ (20 + nx)) → bc j = bs j := by
    intro j hj
    by_cases q1 : j = 4
    · rw [q1]; exact t1
    by_cases q3 : j = jl
    · rw [q3]; exact t3
    rw [hbc]
    exact bsetL_ne (by rw [hLc]; show j ∉ ([0, 4, 5, jl, (20 + nx)] : List Nat); simp only [List.mem_cons, List.not_mem_nil, or_false, not_or]; omega)
  refine lv_aload_n hx hb dL_law_485 rfl (lv_at hl 1 rfl) ?_
  refine ld1 C hS hl hi dL_law_486 dL_law_487 dL_law_488 dL_law_489 dL_law_490 ?_
  obtain ⟨um, hum⟩ : ∃ X : va_W, X = (cM (ad 46) (cy 46) tape len (nn m) sign lg clause clauses rd nxt wrg num txt mde dep lns opn opd stk tp wd S1 fo x wil mov brk w1 (nn c1) kpt bhr far que qud onw mvp mvk isf sth drx im imF imX imM) := ⟨_, rfl⟩
  have bm : bc 46 = _ := (E1 46 (by omega)).trans b46
  obtain ⟨Lm, hLm⟩ : ∃ X : List (Nat × List (ClassId × FieldType) × va_W × va_W), X = [(46, tM (cy 46), bc 46, um)] := ⟨_, rfl⟩
  have hnm : (Lm.map Prod.fst).Nodup := by rw [hLm]; show ([46] : List Nat).Nodup; decide
  refine mbQ_i (As := [.int (xs (i + 1))]) (rest := [.int v]) Lm S9 k0 hP hD hS hA (c12_mend (l := l) (D := D) (ad := (ad 46)) (cy := (cy 46)) (z_tape := tape) (z_taped := len) (z_rules := (nn m)) (z_sign := sign) (z_length := lg) (z_clause := clause) (z_clauses := clauses) (z_read := rd) (z_next := nxt) (z_wrong := wrg) (z_number := num) (z_text := txt) (z_made := mde) (z_deep := dep) (z_lines := lns) (z_open := opn) (z_opened := opd) (z_stack := stk) (z_top := tp) (z_word := wd) (z_said := S) (z_force := fo) (z_x := x) (z_will := wil) (z_moved := mov) (z_broke := brk) (z_wasSaid := w) (z_undone := (nn c)) (z_kept := kpt) (z_breakHour := bhr) (z_far := far) (z_queue := que) (z_queued := qud) (z_isOnWay := onw) (z_movePerson := mvp) (z_moveKind := mvk) (z_isFit := isf) (z_standThen := sth) (z_drawX := drx) (z_images := im) (z_imageForce := imF) (z_imageX := imX) (z_isMade := imM) (a1 := (xs (i + 1))) (o_ret := v) (o_said := S1) (o_wasSaid := w1) (o_undone := (nn c1)) hm) hnm (by rw [hLm]; exact List.forall_mem_cons.mpr ⟨show 46 < N by omega, fun _ h9 => absurd h9 List.not_mem_nil⟩) (by rw [hLm]; exact List.forall_mem_cons.mpr ⟨kM, fun _ h9 => absurd h9 List.not_mem_nil⟩) (by rw [hLm]; exact List.forall_mem_cons.mpr ⟨rfl, fun _ h9 => absurd h9 List.not_mem_nil⟩) (by rw [hLm]; rfl) (by rw [hLm]; simp only [List.flatMap_cons, List.flatMap_nil, List.append_nil, List.append_assoc]; rw [bm]) (by rw [hLm]; simp only [List.flatMap_cons, List.flatMap_nil, List.append_nil, List.append_assoc]; rw [hum]) (gdV mw_41_19 mw_41_20 mw_41_21 mw_1_5 mw_41_22) rfl rfl hd_f12_mend ⟨Nat.le_of_ble_eq_true rfl, Nat.le_of_ble_eq_true rfl⟩ (ci := 12) (q0 := 0) rfl rfl rfl hl.1 rfl (Nat.le_of_ble_eq_true rfl) dL_law_491 hf9 (fun H locs hP hD hS => ?_)
  obtain ⟨bn, hbn⟩ : ∃ X, X = bsetL bc Lm := ⟨_, rfl⟩
  rw [← hbn] at hP hD
  have tm : bn 46 = um := by rw [hbn]; exact bsetL_at (x := (46, tM (cy 46), bc 46, um)) hnm (by rw [hLm]; exact List.mem_of_getElem? (i := 0) rfl)
  have E2 : ∀ j, j ≠ 46 → bn j = bc j := by
    intro j hj
    rw [hbn]
    exact bsetL_ne (by rw [hLm]; show j ∉ ([46] : List Nat); simp only [List.mem_cons, List.not_mem_nil, or_false]; exact hj)
  have E : ∀ j, (j ≠ 46 ∧ j ≠ 0 ∧ j ≠ 5 ∧ j ≠ (20 + nx)) → bn j = bs j := fun j hj => (E2 j (by omega)).trans (E1 j (by omega))
  have s0 : bn 0 = u0 := (E2 _ (by omega)).trans t0
  have s2 : bn 5 = u5 := (E2 _ (by omega)).trans t2
  have s4 : bn (20 + nx) = u20nx := (E2 _ (by omega)).trans t4
  refine lv_icmp_eq (tgt := 1115) hx hb dL_law_494 rfl (fun _ => ?_) (fun c8 => absurd rfl c8)
  refine W.widen (k := cells + 8) (n := slots + 13200) (Nat.le_add_right _ _) (Nat.le_add_right _ _) ?_
  have EL : ∀ j, 47 ≤ j → j < N → bn j = bs j := fun j h1 h2 => E j (by omega)
  exact kk N bn H locs ⟨m, c1, nx1, tn, R, P, (lh 0), rls, bytes, len, fo, x, notes, nh, nr, nm, hour, br1, rung, grip, want, slips, wn1, tape, sign, clause, clauses, S1, w1, im, imF, imX, imM, hN, (s0.trans hu0), hBT.congr (E 1 (by omega)), (E 2 (by omega)).trans b2, hBRR.congr (E 3 (by omega)), hBN.congr (E 4 (by omega)), (s2.trans hu5), hBH.congr (E 6 (by omega)), hBO.congr (E 7 (by omega)), hB8.congr (E 8 (by omega)), hBP.congr (E 9 (by omega)), hBS.congr (E 10 (by omega)), hB11.congr (E 11 (by omega)), (hSc.act hW1 hI1 hSt hhr).congr (Nat.le_refl _) EL, BPs.mk' hpb (s4.trans hu20nx) (fun k h1 h2 => E _ (by omega)) hR1 (PQ_act hn20 hpq hKQ hhr), hIm.congr (Nat.le_refl _) (Nat.le_refl _) (fun k hk => E _ (by omega)) EL, hRu.congr (fun j hj => E _ (by omega)) hm6, ⟨_, _, _, _, _, _, _, _, _, _, _, _, _, _, _, _, _, _, _, _, _, _, _, _, _, _, _, _, tm.trans hum⟩, hTP, hm6, hof, hox⟩ hP hD hS

set_option maxHeartbeats 8000000 in
set_option maxRecDepth 100000 in
theorem k_cut (C : Cx p m9 c9 s A D adK adV ad cy ims pst b L xs) (hi : i + 6 ≤ L) (T : Top D s ad cy ims pst N bs) (hP : va_P D vwCl (bW N bs) H) (hD : va_D A (bW N bs)) (hS : va_S A s.heap H locs) (hl : lv_has ls 4 (lvL ad b i)) (hf : cells + 8 ≤ 600000 ∧ slots + 13200 ≤ 7302250)
    (kk : ∀ (N : Nat) (bs : Nat → va_W) (H : Heap) (locs : List Loc), Top D s ad cy ims pst N bs → va_P D vwCl (bW N bs) H → va_D A (bW N bs) → va_S A s.heap H locs → W p l e room_1 s m9 #[.ref b] below meth c9 H locs (cells + 8) (slots + 13200) Q (F0 m9 1115 ls [])) : W p l e room_1 s m9 #[.ref b] below meth c9 H locs cells slots Q (F0 m9 499 ls []) := by
  obtain ⟨m, c, nx, tn, R, P, A0, rls, bytes, len, fo, x, notes, nh, nr, nm, hour, broken, rung, grip, want, slips, worn, tape, sign, clause, clauses, S, w, im, imF, imX, imM, hN, b0, hBT, b2, hBRR, hBN, b5, hBH, hBO, hB8, hBP, hBS, hB11, hSc, hPs, hIm, hRu, hBM, hTP, hm6, hof, hox⟩ := T
  obtain ⟨S9, hA, hbA, hbl, hX, hL9, hF, hE9, hV9⟩ := id C
  obtain ⟨hx, hb, hml, hown, hts⟩ := id S9
  obtain ⟨k0, kLL, kTp, kRR, kS4, kW5, kH, kO, kW8, kW11, kM, kIm, kPs⟩ := id hF
  have hf9 : cells ≤ room_1.cells ∧ slots ≤ room_1.slots := ⟨Nat.le_trans (Nat.le_add_right _ _) hf.1, Nat.le_trans (Nat.le_add_right _ _) hf.2⟩
  obtain ⟨lg, rd, nxt, wrg, num, txt, mde, dep, lns, opn, opd, stk, tp, wd, wil, mov, brk, kpt, bhr, far, que, qud, onw, mvp, mvk, isf, sth, drx, b46⟩ := id hBM
  obtain ⟨jl, lh, ly, ru, pe, sb, ro, str, wt, tol, srr, sww, g1, g2, g3, bl, kl, hI, hW, hL, hWT, hBg, hhr, hNo⟩ := id hSc
  subst g3
  obtain ⟨md, b4⟩ := id hBN
  obtain ⟨pq, ph, pb, pr, pg, pw, pz, pk, hpb, hRP, hpq⟩ := id hPs
  have hn20 := hRP.2.1
  have hsx := hn20
  obtain ⟨v, nx1, c1, ah, ab, ar, ag, aw, az, ak, q1, S1, w1, br1, rg1, sl1, hc, hm, hW1, hI1, hSt, hR1, hKQ⟩ := r_cut  (qn := lh 0) (qp := pq nx) hRP hI hW hL (kPs nx hn20).2 (xs (i + 1))
  refine lv_aload_n hx hb dL_law_499 rfl (lv_at hl 2 rfl) ?_
  refine ld1 C hS hl hi dL_law_500 dL_law_501 dL_law_502 dL_law_503 dL_law_504 ?_
  obtain ⟨u0, hu0⟩ : ∃ X : va_W, X = cLL (ad 0) (cy 0) (ad 1 0) (ad 2 0) (ad 3 0) rls (nn m) ((ad 4) 0) ims pst (nn nx1) (nn c1) (ad 6 0) (ad 7 0) (ad 9 0) (ad 10 0) := ⟨_, rfl⟩
  obtain ⟨u5, hu5⟩ : ∃ X : va_W, X = cW (ad 5) (cy 5) (lh 0) hour br1 rg1 grip want sl1 worn := ⟨_, rfl⟩
  obtain ⟨u20nx, hu20nx⟩ : ∃ X : va_W, X = cW (ad (20 + nx)) (cy (20 + nx)) q1 ah ab ar ag aw az ak := ⟨_, rfl⟩
  obtain ⟨Lc, hLc⟩ : ∃ X : List (Nat × List (ClassId × FieldType) × va_W × va_W), X = [(0, tLL (cy 0), bs 0, u0), (4, tSt (cy 4), bs 4, bs 4), (5, tW (cy 5), bs 5, u5), (jl, tLd ly, bs jl, bs jl), ((20 + nx), tW (cy (20 + nx)), bs (20 + nx), u20nx)] := ⟨_, rfl⟩
  have hnd : (Lc.map Prod.fst).Nodup := by rw [hLc]; show ([0, 4, 5, jl, (20 + nx)] : List Nat).Nodup; simp only [List.nodup_cons, List.mem_cons, List.not_mem_nil, or_false, not_or, List.nodup_nil, and_true, not_false_eq_true] <;> omega
  have hlt : ∀ x ∈ Lc, x.1 < N := by rw [hLc]; exact List.forall_mem_cons.mpr ⟨show 0 < N by omega, List.forall_mem_cons.mpr ⟨show 4 < N by omega, List.forall_mem_cons.mpr ⟨show 5 < N by omega, List.forall_mem_cons.mpr ⟨show jl < N by omega, List.forall_mem_cons.mpr ⟨show (20 + nx) < N by omega, fun _ h9 => absurd h9 List.not_mem_nil⟩⟩⟩⟩⟩
  have hkL : ∀ x ∈ Lc, va_K D vwCl x.2.1 s := by rw [hLc]; exact List.forall_mem_cons.mpr ⟨kLL, List.forall_mem_cons.mpr ⟨kS4, List.forall_mem_cons.mpr ⟨kW5, List.forall_mem_cons.mpr ⟨kl, List.forall_mem_cons.mpr ⟨(kPs nx hsx).1, fun _ h9 => absurd h9 List.not_mem_nil⟩⟩⟩⟩⟩
  have hbL : ∀ x ∈ Lc, bs x.1 = x.2.2.1 := by rw [hLc]; exact List.forall_mem_cons.mpr ⟨rfl, List.forall_mem_cons.mpr ⟨rfl, List.forall_mem_cons.mpr ⟨rfl, List.forall_mem_cons.mpr ⟨rfl, List.forall_mem_cons.mpr ⟨rfl, fun _ h9 => absurd h9 List.not_mem_nil⟩⟩⟩⟩⟩
  refine mbQ_i (As := [.int (xs (i + 1))]) (rest := []) Lc S9 k0 hP hD hS hA (c11_cut (l := l) (D := D) (ad_this := (ad 0)) (cy_this := (cy 0)) (z_this_tape := (ad 1 0)) (z_this_ladderReader := (ad 2 0)) (z_this_ruleReader := (ad 3 0)) (z_this_rules := rls) (z_this_ruleCount := (nn m)) (z_this_images := ims) (z_this_past := pst) (z_this_pastNext := (nn nx)) (z_this_pastCount := (nn c)) (z_this_hours := (ad 6 0)) (z_this_outlook := (ad 7 0)) (z_this_paths := (ad 9 0)) (z_this_siege := (ad 10 0)) (ad_this_now := (ad 4)) (cy_this_now := (cy 4)) (z_this_now_force := fo) (z_this_now_x := x) (z_this_now_notes := notes) (z_this_now_noteHour := nh) (z_this_now_noteRung := nr) (z_this_now_noteMany := nm) (z_this_now_made := md) (ad_this_now_world := (ad 5)) (cy_this_now_world := (cy 5)) (z_this_now_world_hour := hour) (z_this_now_world_broken := broken) (z_this_now_world_rung := rung) (z_this_now_world_grip := grip) (z_this_now_world_want := want) (z_this_now_world_slips := slips) (z_this_now_world_worn := worn) (ad_this_now_world_ladder := lh) (cy_this_now_world_ladder := ly) (z_this_now_world_ladder_rungs := ru) (z_this_now_world_ladder_people := pe) (z_this_now_world_ladder_startBroken := sb) (z_this_now_world_ladder_room := ro) (z_this_now_world_ladder_strength := str) (z_this_now_world_ladder_weight := wt) (z_this_now_world_ladder_told := tol) (z_this_now_world_ladder_startRung := srr) (z_this_now_world_ladder_startWant := sww) (ad_this_pastAt := (ad (20 + nx))) (cy_this_pastAt := (cy (20 + nx))) (z_this_pastAt_ladder := (pq nx)) (z_this_pastAt_hour := (ph nx)) (z_this_pastAt_broken := (pb nx)) (z_this_pastAt_rung := (pr nx)) (z_this_pastAt_grip := (pg nx)) (z_this_pastAt_want := (pw nx)) (z_this_pastAt_slips := (pz nx)) (z_this_pastAt_worn := (pk nx)) (a1 := (xs (i + 1))) (o_ret := v) (o_this_pastNext := (nn nx1)) (o_this_pastCount := (nn c1)) (o_this_now_world_broken := br1) (o_this_now_world_rung := rg1) (o_this_now_world_slips := sl1) (o_this_pastAt_hour := ah) (o_this_pastAt_broken := ab) (o_this_pastAt_rung := ar) (o_this_pastAt_grip := ag) (o_this_pastAt_want := aw) (o_this_pastAt_slips := az) (o_this_pastAt_worn := ak) (o_link_this_pastAt := q1) hc) hnd hlt hkL hbL (by rw [hLc]; rfl) (by rw [hLc]; simp only [List.flatMap_cons, List.flatMap_nil, List.append_nil, List.append_assoc]; rw [b0, b4, b5, bl, (hpb nx hsx)]) (by rw [hLc]; simp only [List.flatMap_cons, List.flatMap_nil, List.append_nil, List.append_assoc]; rw [hu0, b4, hu5, bl, hu20nx]) (gdV mw_42_7 mw_42_8 mw_42_9 mw_1_2 mw_42_10) rfl rfl hd_f11_cut ⟨Nat.le_of_ble_eq_true rfl, Nat.le_of_ble_eq_true rfl⟩ (ci := 11) (q0 := 0) rfl rfl rfl hl.1 rfl (Nat.le_of_ble_eq_true rfl) dL_law_505 hf9 (fun H locs hP hD hS => ?_)
  obtain ⟨bc, hbc⟩ : ∃ X, X = bsetL bs Lc := ⟨_, rfl⟩
  rw [← hbc] at hP hD
  have t0 : bc 0 = u0 := by rw [hbc]; exact bsetL_at (x := (0, tLL (cy 0), bs 0, u0)) hnd (by rw [hLc]; exact List.mem_of_getElem? (i := 0) rfl)
  have t1 : bc 4 = bs 4 := by rw [hbc]; exact bsetL_at (x := (4, tSt (cy 4), bs 4, bs 4)) hnd (by rw [hLc]; exact List.mem_of_getElem? (i := 1) rfl)
  have t2 : bc 5 = u5 := by rw [hbc]; exact bsetL_at (x := (5, tW (cy 5), bs 5, u5)) hnd (by rw [hLc]; exact List.mem_of_getElem? (i := 2) rfl)
  have t3 : bc jl = bs jl := by rw [hbc]; exact bsetL_at (x := (jl, tLd ly, bs jl, bs jl)) hnd (by rw [hLc]; exact List.mem_of_getElem? (i := 3) rfl)
  have t4 : bc (20 + nx) = u20nx := by rw [hbc]; exact bsetL_at (x := ((20 + nx), tW (cy (20 + nx)), bs (20 + nx), u20nx)) hnd (by rw [hLc]; exact List.mem_of_getElem? (i := 4) rfl)
  have E1 : ∀ j, (j ≠ 0 ∧ j ≠ 5 ∧ j ≠ (20 + nx)) → bc j = bs j := by
    intro j hj
    by_cases q1 : j = 4
    · rw [q1]; exact t1
    by_cases q3 : j = jl
    · rw [q3]; exact t3
    rw [hbc]
    exact bsetL_ne (by rw [hLc]; show j ∉ ([0, 4, 5, jl, (20 + nx)] : List Nat); simp only [List.mem_cons, List.not_mem_nil, or_false, not_or]; omega)
  refine lv_aload_n hx hb dL_law_508 rfl (lv_at hl 1 rfl) ?_
  refine ld1 C hS hl hi dL_law_509 dL_law_510 dL_law_511 dL_law_512 dL_law_513 ?_
  obtain ⟨um, hum⟩ : ∃ X : va_W, X = (cM (ad 46) (cy 46) tape len (nn m) sign lg clause clauses rd nxt wrg num txt mde dep lns opn opd stk tp wd S1 fo x wil mov brk w1 (nn c1) kpt bhr far que qud onw mvp mvk isf sth drx im imF imX imM) := ⟨_, rfl⟩
  have bm : bc 46 = _ := (E1 46 (by omega)).trans b46
  obtain ⟨Lm, hLm⟩ : ∃ X : List (Nat × List (ClassId × FieldType) × va_W × va_W), X = [(46, tM (cy 46), bc 46, um)] := ⟨_, rfl⟩
  have hnm : (Lm.map Prod.fst).Nodup := by rw [hLm]; show ([46] : List Nat).Nodup; decide
  refine mbQ_i (As := [.int (xs (i + 1))]) (rest := [.int v]) Lm S9 k0 hP hD hS hA (c12_cut (l := l) (D := D) (ad := (ad 46)) (cy := (cy 46)) (z_tape := tape) (z_taped := len) (z_rules := (nn m)) (z_sign := sign) (z_length := lg) (z_clause := clause) (z_clauses := clauses) (z_read := rd) (z_next := nxt) (z_wrong := wrg) (z_number := num) (z_text := txt) (z_made := mde) (z_deep := dep) (z_lines := lns) (z_open := opn) (z_opened := opd) (z_stack := stk) (z_top := tp) (z_word := wd) (z_said := S) (z_force := fo) (z_x := x) (z_will := wil) (z_moved := mov) (z_broke := brk) (z_wasSaid := w) (z_undone := (nn c)) (z_kept := kpt) (z_breakHour := bhr) (z_far := far) (z_queue := que) (z_queued := qud) (z_isOnWay := onw) (z_movePerson := mvp) (z_moveKind := mvk) (z_isFit := isf) (z_standThen := sth) (z_drawX := drx) (z_images := im) (z_imageForce := imF) (z_imageX := imX) (z_isMade := imM) (a1 := (xs (i + 1))) (o_ret := v) (o_said := S1) (o_wasSaid := w1) (o_undone := (nn c1)) hm) hnm (by rw [hLm]; exact List.forall_mem_cons.mpr ⟨show 46 < N by omega, fun _ h9 => absurd h9 List.not_mem_nil⟩) (by rw [hLm]; exact List.forall_mem_cons.mpr ⟨kM, fun _ h9 => absurd h9 List.not_mem_nil⟩) (by rw [hLm]; exact List.forall_mem_cons.mpr ⟨rfl, fun _ h9 => absurd h9 List.not_mem_nil⟩) (by rw [hLm]; rfl) (by rw [hLm]; simp only [List.flatMap_cons, List.flatMap_nil, List.append_nil, List.append_assoc]; rw [bm]) (by rw [hLm]; simp only [List.flatMap_cons, List.flatMap_nil, List.append_nil, List.append_assoc]; rw [hum]) (gdV mw_42_12 mw_42_13 mw_42_14 mw_1_5 mw_42_15) rfl rfl hd_f12_cut ⟨Nat.le_of_ble_eq_true rfl, Nat.le_of_ble_eq_true rfl⟩ (ci := 12) (q0 := 0) rfl rfl rfl hl.1 rfl (Nat.le_of_ble_eq_true rfl) dL_law_514 hf9 (fun H locs hP hD hS => ?_)
  obtain ⟨bn, hbn⟩ : ∃ X, X = bsetL bc Lm := ⟨_, rfl⟩
  rw [← hbn] at hP hD
  have tm : bn 46 = um := by rw [hbn]; exact bsetL_at (x := (46, tM (cy 46), bc 46, um)) hnm (by rw [hLm]; exact List.mem_of_getElem? (i := 0) rfl)
  have E2 : ∀ j, j ≠ 46 → bn j = bc j := by
    intro j hj
    rw [hbn]
    exact bsetL_ne (by rw [hLm]; show j ∉ ([46] : List Nat); simp only [List.mem_cons, List.not_mem_nil, or_false]; exact hj)
  have E : ∀ j, (j ≠ 46 ∧ j ≠ 0 ∧ j ≠ 5 ∧ j ≠ (20 + nx)) → bn j = bs j := fun j hj => (E2 j (by omega)).trans (E1 j (by omega))
  have s0 : bn 0 = u0 := (E2 _ (by omega)).trans t0
  have s2 : bn 5 = u5 := (E2 _ (by omega)).trans t2
  have s4 : bn (20 + nx) = u20nx := (E2 _ (by omega)).trans t4
  refine lv_icmp_eq (tgt := 1115) hx hb dL_law_517 rfl (fun _ => ?_) (fun c8 => absurd rfl c8)
  refine W.widen (k := cells + 8) (n := slots + 13200) (Nat.le_add_right _ _) (Nat.le_add_right _ _) ?_
  have EL : ∀ j, 47 ≤ j → j < N → bn j = bs j := fun j h1 h2 => E j (by omega)
  exact kk N bn H locs ⟨m, c1, nx1, tn, R, P, (lh 0), rls, bytes, len, fo, x, notes, nh, nr, nm, hour, br1, rg1, grip, want, sl1, worn, tape, sign, clause, clauses, S1, w1, im, imF, imX, imM, hN, (s0.trans hu0), hBT.congr (E 1 (by omega)), (E 2 (by omega)).trans b2, hBRR.congr (E 3 (by omega)), hBN.congr (E 4 (by omega)), (s2.trans hu5), hBH.congr (E 6 (by omega)), hBO.congr (E 7 (by omega)), hB8.congr (E 8 (by omega)), hBP.congr (E 9 (by omega)), hBS.congr (E 10 (by omega)), hB11.congr (E 11 (by omega)), (hSc.act hW1 hI1 hSt hhr).congr (Nat.le_refl _) EL, BPs.mk' hpb (s4.trans hu20nx) (fun k h1 h2 => E _ (by omega)) hR1 (PQ_act hn20 hpq hKQ hhr), hIm.congr (Nat.le_refl _) (Nat.le_refl _) (fun k hk => E _ (by omega)) EL, hRu.congr (fun j hj => E _ (by omega)) hm6, ⟨_, _, _, _, _, _, _, _, _, _, _, _, _, _, _, _, _, _, _, _, _, _, _, _, _, _, _, _, tm.trans hum⟩, hTP, hm6, hof, hox⟩ hP hD hS

set_option maxHeartbeats 8000000 in
set_option maxRecDepth 100000 in
theorem k_aim (C : Cx p m9 c9 s A D adK adV ad cy ims pst b L xs) (hi : i + 6 ≤ L) (T : Top D s ad cy ims pst N bs) (hP : va_P D vwCl (bW N bs) H) (hD : va_D A (bW N bs)) (hS : va_S A s.heap H locs) (hl : lv_has ls 4 (lvL ad b i)) (hf : cells + 8 ≤ 600000 ∧ slots + 13200 ≤ 7302250)
    (kk : ∀ (N : Nat) (bs : Nat → va_W) (H : Heap) (locs : List Loc), Top D s ad cy ims pst N bs → va_P D vwCl (bW N bs) H → va_D A (bW N bs) → va_S A s.heap H locs → W p l e room_1 s m9 #[.ref b] below meth c9 H locs (cells + 8) (slots + 13200) Q (F0 m9 1115 ls [])) : W p l e room_1 s m9 #[.ref b] below meth c9 H locs cells slots Q (F0 m9 522 ls []) := by
  obtain ⟨m, c, nx, tn, R, P, A0, rls, bytes, len, fo, x, notes, nh, nr, nm, hour, broken, rung, grip, want, slips, worn, tape, sign, clause, clauses, S, w, im, imF, imX, imM, hN, b0, hBT, b2, hBRR, hBN, b5, hBH, hBO, hB8, hBP, hBS, hB11, hSc, hPs, hIm, hRu, hBM, hTP, hm6, hof, hox⟩ := T
  obtain ⟨S9, hA, hbA, hbl, hX, hL9, hF, hE9, hV9⟩ := id C
  obtain ⟨hx, hb, hml, hown, hts⟩ := id S9
  obtain ⟨k0, kLL, kTp, kRR, kS4, kW5, kH, kO, kW8, kW11, kM, kIm, kPs⟩ := id hF
  have hf9 : cells ≤ room_1.cells ∧ slots ≤ room_1.slots := ⟨Nat.le_trans (Nat.le_add_right _ _) hf.1, Nat.le_trans (Nat.le_add_right _ _) hf.2⟩
  obtain ⟨lg, rd, nxt, wrg, num, txt, mde, dep, lns, opn, opd, stk, tp, wd, wil, mov, brk, kpt, bhr, far, que, qud, onw, mvp, mvk, isf, sth, drx, b46⟩ := id hBM
  obtain ⟨jl, lh, ly, ru, pe, sb, ro, str, wt, tol, srr, sww, g1, g2, g3, bl, kl, hI, hW, hL, hWT, hBg, hhr, hNo⟩ := id hSc
  subst g3
  obtain ⟨md, b4⟩ := id hBN
  obtain ⟨pq, ph, pb, pr, pg, pw, pz, pk, hpb, hRP, hpq⟩ := id hPs
  have hn20 := hRP.2.1
  have hsx := hn20
  obtain ⟨v, nx1, c1, ah, ab, ar, ag, aw, az, ak, q1, S1, w1, wt1, hc, hm, hW1, hI1, hSt, hR1, hKQ⟩ := r_aim  (qn := lh 0) (qp := pq nx) hRP hI hW hL (kPs nx hn20).2 (xs (i + 1)) (xs (i + 2))
  refine lv_aload_n hx hb dL_law_522 rfl (lv_at hl 2 rfl) ?_
  refine ld1 C hS hl hi dL_law_523 dL_law_524 dL_law_525 dL_law_526 dL_law_527 ?_
  refine ld2 C hS hl hi dL_law_528 dL_law_529 dL_law_530 dL_law_531 dL_law_532 ?_
  obtain ⟨u0, hu0⟩ : ∃ X : va_W, X = cLL (ad 0) (cy 0) (ad 1 0) (ad 2 0) (ad 3 0) rls (nn m) ((ad 4) 0) ims pst (nn nx1) (nn c1) (ad 6 0) (ad 7 0) (ad 9 0) (ad 10 0) := ⟨_, rfl⟩
  obtain ⟨u5, hu5⟩ : ∃ X : va_W, X = cW (ad 5) (cy 5) (lh 0) hour broken rung grip wt1 slips worn := ⟨_, rfl⟩
  obtain ⟨u20nx, hu20nx⟩ : ∃ X : va_W, X = cW (ad (20 + nx)) (cy (20 + nx)) q1 ah ab ar ag aw az ak := ⟨_, rfl⟩
  obtain ⟨Lc, hLc⟩ : ∃ X : List (Nat × List (ClassId × FieldType) × va_W × va_W), X = [(0, tLL (cy 0), bs 0, u0), (4, tSt (cy 4), bs 4, bs 4), (5, tW (cy 5), bs 5, u5), (jl, tLd ly, bs jl, bs jl), ((20 + nx), tW (cy (20 + nx)), bs (20 + nx), u20nx)] := ⟨_, rfl⟩
  have hnd : (Lc.map Prod.fst).Nodup := by rw [hLc]; show ([0, 4, 5, jl, (20 + nx)] : List Nat).Nodup; simp only [List.nodup_cons, List.mem_cons, List.not_mem_nil, or_false, not_or, List.nodup_nil, and_true, not_false_eq_true] <;> omega
  have hlt : ∀ x ∈ Lc, x.1 < N := by rw [hLc]; exact List.forall_mem_cons.mpr ⟨show 0 < N by omega, List.forall_mem_cons.mpr ⟨show 4 < N by omega, List.forall_mem_cons.mpr ⟨show 5 < N by omega, List.forall_mem_cons.mpr ⟨show jl < N by omega, List.forall_mem_cons.mpr ⟨show (20 + nx) < N by omega, fun _ h9 => absurd h9 List.not_mem_nil⟩⟩⟩⟩⟩
  have hkL : ∀ x ∈ Lc, va_K D vwCl x.2.1 s := by rw [hLc]; exact List.forall_mem_cons.mpr ⟨kLL, List.forall_mem_cons.mpr ⟨kS4, List.forall_mem_cons.mpr ⟨kW5, List.forall_mem_cons.mpr ⟨kl, List.forall_mem_cons.mpr ⟨(kPs nx hsx).1, fun _ h9 => absurd h9 List.not_mem_nil⟩⟩⟩⟩⟩
  have hbL : ∀ x ∈ Lc, bs x.1 = x.2.2.1 := by rw [hLc]; exact List.forall_mem_cons.mpr ⟨rfl, List.forall_mem_cons.mpr ⟨rfl, List.forall_mem_cons.mpr ⟨rfl, List.forall_mem_cons.mpr ⟨rfl, List.forall_mem_cons.mpr ⟨rfl, fun _ h9 => absurd h9 List.not_mem_nil⟩⟩⟩⟩⟩
  refine mbQ_i (As := [.int (xs (i + 1)), .int (xs (i + 2))]) (rest := []) Lc S9 k0 hP hD hS hA (c11_aim (l := l) (D := D) (ad_this := (ad 0)) (cy_this := (cy 0)) (z_this_tape := (ad 1 0)) (z_this_ladderReader := (ad 2 0)) (z_this_ruleReader := (ad 3 0)) (z_this_rules := rls) (z_this_ruleCount := (nn m)) (z_this_images := ims) (z_this_past := pst) (z_this_pastNext := (nn nx)) (z_this_pastCount := (nn c)) (z_this_hours := (ad 6 0)) (z_this_outlook := (ad 7 0)) (z_this_paths := (ad 9 0)) (z_this_siege := (ad 10 0)) (ad_this_now := (ad 4)) (cy_this_now := (cy 4)) (z_this_now_force := fo) (z_this_now_x := x) (z_this_now_notes := notes) (z_this_now_noteHour := nh) (z_this_now_noteRung := nr) (z_this_now_noteMany := nm) (z_this_now_made := md) (ad_this_now_world := (ad 5)) (cy_this_now_world := (cy 5)) (z_this_now_world_hour := hour) (z_this_now_world_broken := broken) (z_this_now_world_rung := rung) (z_this_now_world_grip := grip) (z_this_now_world_want := want) (z_this_now_world_slips := slips) (z_this_now_world_worn := worn) (ad_this_now_world_ladder := lh) (cy_this_now_world_ladder := ly) (z_this_now_world_ladder_rungs := ru) (z_this_now_world_ladder_people := pe) (z_this_now_world_ladder_startBroken := sb) (z_this_now_world_ladder_room := ro) (z_this_now_world_ladder_strength := str) (z_this_now_world_ladder_weight := wt) (z_this_now_world_ladder_told := tol) (z_this_now_world_ladder_startRung := srr) (z_this_now_world_ladder_startWant := sww) (ad_this_pastAt := (ad (20 + nx))) (cy_this_pastAt := (cy (20 + nx))) (z_this_pastAt_ladder := (pq nx)) (z_this_pastAt_hour := (ph nx)) (z_this_pastAt_broken := (pb nx)) (z_this_pastAt_rung := (pr nx)) (z_this_pastAt_grip := (pg nx)) (z_this_pastAt_want := (pw nx)) (z_this_pastAt_slips := (pz nx)) (z_this_pastAt_worn := (pk nx)) (a1 := (xs (i + 1))) (a2 := (xs (i + 2))) (o_ret := v) (o_this_pastNext := (nn nx1)) (o_this_pastCount := (nn c1)) (o_this_now_world_want := wt1) (o_this_pastAt_hour := ah) (o_this_pastAt_broken := ab) (o_this_pastAt_rung := ar) (o_this_pastAt_grip := ag) (o_this_pastAt_want := aw) (o_this_pastAt_slips := az) (o_this_pastAt_worn := ak) (o_link_this_pastAt := q1) hc) hnd hlt hkL hbL (by rw [hLc]; rfl) (by rw [hLc]; simp only [List.flatMap_cons, List.flatMap_nil, List.append_nil, List.append_assoc]; rw [b0, b4, b5, bl, (hpb nx hsx)]) (by rw [hLc]; simp only [List.flatMap_cons, List.flatMap_nil, List.append_nil, List.append_assoc]; rw [hu0, b4, hu5, bl, hu20nx]) (gdV mw_42_16 mw_42_17 mw_42_18 mw_1_2 mw_42_19) rfl rfl hd_f11_aim ⟨Nat.le_of_ble_eq_true rfl, Nat.le_of_ble_eq_true rfl⟩ (ci := 11) (q0 := 0) rfl rfl rfl hl.1 rfl (Nat.le_of_ble_eq_true rfl) dL_law_533 hf9 (fun H locs hP hD hS => ?_)
  obtain ⟨bc, hbc⟩ : ∃ X, X = bsetL bs Lc := ⟨_, rfl⟩
  rw [← hbc] at hP hD
  have t0 : bc 0 = u0 := by rw [hbc]; exact bsetL_at (x := (0, tLL (cy 0), bs 0, u0)) hnd (by rw [hLc]; exact List.mem_of_getElem? (i := 0) rfl)
  have t1 : bc 4 = bs 4 := by rw [hbc]; exact bsetL_at (x := (4, tSt (cy 4), bs 4, bs 4)) hnd (by rw [hLc]; exact List.mem_of_getElem? (i := 1) rfl)
  have t2 : bc 5 = u5 := by rw [hbc]; exact bsetL_at (x := (5, tW (cy 5), bs 5, u5)) hnd (by rw [hLc]; exact List.mem_of_getElem? (i := 2) rfl)
  have t3 : bc jl = bs jl := by rw [hbc]; exact bsetL_at (x := (jl, tLd ly, bs jl, bs jl)) hnd (by rw [hLc]; exact List.mem_of_getElem? (i := 3) rfl)
  have t4 : bc (20 + nx) = u20nx := by rw [hbc]; exact bsetL_at (x := ((20 + nx), tW (cy (20 + nx)), bs (20 + nx), u20nx)) hnd (by rw [hLc]; exact List.mem_of_getElem? (i := 4) rfl)
  have E1 : ∀ j, (j ≠ 0 ∧ j ≠ 5 ∧ j ≠ (20 + nx)) → bc j = bs j := by
    intro j hj
    by_cases q1 : j = 4
    · rw [q1]; exact t1
    by_cases q3 : j = jl
    · rw [q3]; exact t3
    rw [hbc]
    exact bsetL_ne (by rw [hLc]; show j ∉ ([0, 4, 5, jl, (20 + nx)] : List Nat); simp only [List.mem_cons, List.not_mem_nil, or_false, not_or]; omega)
  refine lv_aload_n hx hb dL_law_536 rfl (lv_at hl 1 rfl) ?_
  refine ld1 C hS hl hi dL_law_537 dL_law_538 dL_law_539 dL_law_540 dL_law_541 ?_
  refine ld2 C hS hl hi dL_law_542 dL_law_543 dL_law_544 dL_law_545 dL_law_546 ?_
  obtain ⟨um, hum⟩ : ∃ X : va_W, X = (cM (ad 46) (cy 46) tape len (nn m) sign lg clause clauses rd nxt wrg num txt mde dep lns opn opd stk tp wd S1 fo x wil mov brk w1 (nn c1) kpt bhr far que qud onw mvp mvk isf sth drx im imF imX imM) := ⟨_, rfl⟩
  have bm : bc 46 = _ := (E1 46 (by omega)).trans b46
  obtain ⟨Lm, hLm⟩ : ∃ X : List (Nat × List (ClassId × FieldType) × va_W × va_W), X = [(46, tM (cy 46), bc 46, um)] := ⟨_, rfl⟩
  have hnm : (Lm.map Prod.fst).Nodup := by rw [hLm]; show ([46] : List Nat).Nodup; decide
  refine mbQ_i (As := [.int (xs (i + 1)), .int (xs (i + 2))]) (rest := [.int v]) Lm S9 k0 hP hD hS hA (c12_aim (l := l) (D := D) (ad := (ad 46)) (cy := (cy 46)) (z_tape := tape) (z_taped := len) (z_rules := (nn m)) (z_sign := sign) (z_length := lg) (z_clause := clause) (z_clauses := clauses) (z_read := rd) (z_next := nxt) (z_wrong := wrg) (z_number := num) (z_text := txt) (z_made := mde) (z_deep := dep) (z_lines := lns) (z_open := opn) (z_opened := opd) (z_stack := stk) (z_top := tp) (z_word := wd) (z_said := S) (z_force := fo) (z_x := x) (z_will := wil) (z_moved := mov) (z_broke := brk) (z_wasSaid := w) (z_undone := (nn c)) (z_kept := kpt) (z_breakHour := bhr) (z_far := far) (z_queue := que) (z_queued := qud) (z_isOnWay := onw) (z_movePerson := mvp) (z_moveKind := mvk) (z_isFit := isf) (z_standThen := sth) (z_drawX := drx) (z_images := im) (z_imageForce := imF) (z_imageX := imX) (z_isMade := imM) (a1 := (xs (i + 1))) (a2 := (xs (i + 2))) (o_ret := v) (o_said := S1) (o_wasSaid := w1) (o_undone := (nn c1)) hm) hnm (by rw [hLm]; exact List.forall_mem_cons.mpr ⟨show 46 < N by omega, fun _ h9 => absurd h9 List.not_mem_nil⟩) (by rw [hLm]; exact List.forall_mem_cons.mpr ⟨kM, fun _ h9 => absurd h9 List.not_mem_nil⟩) (by rw [hLm]; exact List.forall_mem_cons.mpr ⟨rfl, fun _ h9 => absurd h9 List.not_mem_nil⟩) (by rw [hLm]; rfl) (by rw [hLm]; simp only [List.flatMap_cons, List.flatMap_nil, List.append_nil, List.append_assoc]; rw [bm]) (by rw [hLm]; simp only [List.flatMap_cons, List.flatMap_nil, List.append_nil, List.append_assoc]; rw [hum]) (gdV mw_42_21 mw_42_22 mw_42_23 mw_1_5 mw_43_0) rfl rfl hd_f12_aim ⟨Nat.le_of_ble_eq_true rfl, Nat.le_of_ble_eq_true rfl⟩ (ci := 12) (q0 := 0) rfl rfl rfl hl.1 rfl (Nat.le_of_ble_eq_true rfl) dL_law_547 hf9 (fun H locs hP hD hS => ?_)
  obtain ⟨bn, hbn⟩ : ∃ X, X = bsetL bc Lm := ⟨_, rfl⟩
  rw [← hbn] at hP hD
  have tm : bn 46 = um := by rw [hbn]; exact bsetL_at (x := (46, tM (cy 46), bc 46, um)) hnm (by rw [hLm]; exact List.mem_of_getElem? (i := 0) rfl)
  have E2 : ∀ j, j ≠ 46 → bn j = bc j := by
    intro j hj
    rw [hbn]
    exact bsetL_ne (by rw [hLm]; show j ∉ ([46] : List Nat); simp only [List.mem_cons, List.not_mem_nil, or_false]; exact hj)
  have E : ∀ j, (j ≠ 46 ∧ j ≠ 0 ∧ j ≠ 5 ∧ j ≠ (20 + nx)) → bn j = bs j := fun j hj => (E2 j (by omega)).trans (E1 j (by omega))
  have s0 : bn 0 = u0 := (E2 _ (by omega)).trans t0
  have s2 : bn 5 = u5 := (E2 _ (by omega)).trans t2
  have s4 : bn (20 + nx) = u20nx := (E2 _ (by omega)).trans t4
  refine lv_icmp_eq (tgt := 1115) hx hb dL_law_550 rfl (fun _ => ?_) (fun c8 => absurd rfl c8)
  refine W.widen (k := cells + 8) (n := slots + 13200) (Nat.le_add_right _ _) (Nat.le_add_right _ _) ?_
  have EL : ∀ j, 47 ≤ j → j < N → bn j = bs j := fun j h1 h2 => E j (by omega)
  exact kk N bn H locs ⟨m, c1, nx1, tn, R, P, (lh 0), rls, bytes, len, fo, x, notes, nh, nr, nm, hour, broken, rung, grip, wt1, slips, worn, tape, sign, clause, clauses, S1, w1, im, imF, imX, imM, hN, (s0.trans hu0), hBT.congr (E 1 (by omega)), (E 2 (by omega)).trans b2, hBRR.congr (E 3 (by omega)), hBN.congr (E 4 (by omega)), (s2.trans hu5), hBH.congr (E 6 (by omega)), hBO.congr (E 7 (by omega)), hB8.congr (E 8 (by omega)), hBP.congr (E 9 (by omega)), hBS.congr (E 10 (by omega)), hB11.congr (E 11 (by omega)), (hSc.act hW1 hI1 hSt hhr).congr (Nat.le_refl _) EL, BPs.mk' hpb (s4.trans hu20nx) (fun k h1 h2 => E _ (by omega)) hR1 (PQ_act hn20 hpq hKQ hhr), hIm.congr (Nat.le_refl _) (Nat.le_refl _) (fun k hk => E _ (by omega)) EL, hRu.congr (fun j hj => E _ (by omega)) hm6, ⟨_, _, _, _, _, _, _, _, _, _, _, _, _, _, _, _, _, _, _, _, _, _, _, _, _, _, _, _, tm.trans hum⟩, hTP, hm6, hof, hox⟩ hP hD hS

set_option maxHeartbeats 8000000 in
set_option maxRecDepth 100000 in
theorem k_hour (C : Cx p m9 c9 s A D adK adV ad cy ims pst b L xs) (hi : i + 6 ≤ L) (T : Top D s ad cy ims pst N bs) (hP : va_P D vwCl (bW N bs) H) (hD : va_D A (bW N bs)) (hS : va_S A s.heap H locs) (hl : lv_has ls 4 (lvL ad b i)) (hf : cells + 8 ≤ 600000 ∧ slots + 13200 ≤ 7302250)
    (kk : ∀ (N : Nat) (bs : Nat → va_W) (H : Heap) (locs : List Loc), Top D s ad cy ims pst N bs → va_P D vwCl (bW N bs) H → va_D A (bW N bs) → va_S A s.heap H locs → W p l e room_1 s m9 #[.ref b] below meth c9 H locs (cells + 8) (slots + 13200) Q (F0 m9 1115 ls [])) : W p l e room_1 s m9 #[.ref b] below meth c9 H locs cells slots Q (F0 m9 381 ls []) := by
  obtain ⟨m, c, nx, tn, R, P, A0, rls, bytes, len, fo, x, notes, nh, nr, nm, hour, broken, rung, grip, want, slips, worn, tape, sign, clause, clauses, S, w, im, imF, imX, imM, hN, b0, hBT, b2, hBRR, hBN, b5, hBH, hBO, hB8, hBP, hBS, hB11, hSc, hPs, hIm, hRu, hBM, hTP, hm6, hof, hox⟩ := T
  obtain ⟨S9, hA, hbA, hbl, hX, hL9, hF, hE9, hV9⟩ := id C
  obtain ⟨hx, hb, hml, hown, hts⟩ := id S9
  obtain ⟨k0, kLL, kTp, kRR, kS4, kW5, kH, kO, kW8, kW11, kM, kIm, kPs⟩ := id hF
  have hf9 : cells ≤ room_1.cells ∧ slots ≤ room_1.slots := ⟨Nat.le_trans (Nat.le_add_right _ _) hf.1, Nat.le_trans (Nat.le_add_right _ _) hf.2⟩
  obtain ⟨lg, rd, nxt, wrg, num, txt, mde, dep, lns, opn, opd, stk, tp, wd, wil, mov, brk, kpt, bhr, far, que, qud, onw, mvp, mvk, isf, sth, drx, b46⟩ := id hBM
  obtain ⟨jl, lh, ly, ru, pe, sb, ro, str, wt, tol, srr, sww, g1, g2, g3, bl, kl, hI, hW, hL, hWT, hBg, hhr, hNo⟩ := id hSc
  subst g3
  obtain ⟨hbr, hwl, hde, hwo, b6⟩ := id hBH
  obtain ⟨md, b4⟩ := id hBN
  obtain ⟨pq, ph, pb, pr, pg, pw, pz, pk, hpb, hRP, hpq⟩ := id hPs
  have hn20 := hRP.2.1
  have hsx := hn20
  rcases id hof with hfo | ⟨f, hfm, hfo⟩
  · skip
    obtain ⟨v, nx1, c1, ah, ab, ar, ag, aw, az, ak, q1, S1, w1, hb1, wl1, de1, ho1, br1, rg1, gr1, sl1, wn1, wi1, mo1, bk1, hc, hm, hW1, hI1, hSt, hR1, hKQ, hh1⟩ := r_hour_n (rls := rls) (rc := nn m) (fo := fo) (hb0 := hbr) (bk0 := brk) (tp := tp) (will0 := hwl) (deed0 := hde) (wil0 := wil) (moved0 := mov) (sign := sign) (clause := clause) (clauses := clauses) (st := stk) (wd := wd) (qn := lh 0) (qp := pq nx) hRP hI hW hL (kPs nx hn20).2 hhr (by rw [hfo]; decide)
    refine lv_aload_n hx hb dL_law_381 rfl (lv_at hl 2 rfl) ?_
    obtain ⟨u0, hu0⟩ : ∃ X : va_W, X = cLL (ad 0) (cy 0) (ad 1 0) (ad 2 0) (ad 3 0) rls (nn m) ((ad 4) 0) ims pst (nn nx1) (nn c1) ((ad 6) 0) (ad 7 0) (ad 9 0) (ad 10 0) := ⟨_, rfl⟩
    obtain ⟨u6, hu6⟩ : ∃ X : va_W, X = cH (ad 6) (cy 6) hb1 wl1 de1 hwo := ⟨_, rfl⟩
    obtain ⟨u5, hu5⟩ : ∃ X : va_W, X = cW (ad 5) (cy 5) (lh 0) ho1 br1 rg1 gr1 want sl1 wn1 := ⟨_, rfl⟩
    obtain ⟨u20nx, hu20nx⟩ : ∃ X : va_W, X = cW (ad (20 + nx)) (cy (20 + nx)) q1 ah ab ar ag aw az ak := ⟨_, rfl⟩
    obtain ⟨Lc, hLc⟩ : ∃ X : List (Nat × List (ClassId × FieldType) × va_W × va_W), X = [(0, tLL (cy 0), bs 0, u0), (6, tH (cy 6), bs 6, u6), (4, tSt (cy 4), bs 4, bs 4), (5, tW (cy 5), bs 5, u5), (jl, tLd ly, bs jl, bs jl), ((20 + nx), tW (cy (20 + nx)), bs (20 + nx), u20nx)] := ⟨_, rfl⟩
    have hnd : (Lc.map Prod.fst).Nodup := by rw [hLc]; show ([0, 6, 4, 5, jl, (20 + nx)] : List Nat).Nodup; simp only [List.nodup_cons, List.mem_cons, List.not_mem_nil, or_false, not_or, List.nodup_nil, and_true, not_false_eq_true] <;> omega
    have hlt : ∀ x ∈ Lc, x.1 < N := by rw [hLc]; exact List.forall_mem_cons.mpr ⟨show 0 < N by omega, List.forall_mem_cons.mpr ⟨show 6 < N by omega, List.forall_mem_cons.mpr ⟨show 4 < N by omega, List.forall_mem_cons.mpr ⟨show 5 < N by omega, List.forall_mem_cons.mpr ⟨show jl < N by omega, List.forall_mem_cons.mpr ⟨show (20 + nx) < N by omega, fun _ h9 => absurd h9 List.not_mem_nil⟩⟩⟩⟩⟩⟩
    have hkL : ∀ x ∈ Lc, va_K D vwCl x.2.1 s := by rw [hLc]; exact List.forall_mem_cons.mpr ⟨kLL, List.forall_mem_cons.mpr ⟨kH, List.forall_mem_cons.mpr ⟨kS4, List.forall_mem_cons.mpr ⟨kW5, List.forall_mem_cons.mpr ⟨kl, List.forall_mem_cons.mpr ⟨(kPs nx hsx).1, fun _ h9 => absurd h9 List.not_mem_nil⟩⟩⟩⟩⟩⟩
    have hbL : ∀ x ∈ Lc, bs x.1 = x.2.2.1 := by rw [hLc]; exact List.forall_mem_cons.mpr ⟨rfl, List.forall_mem_cons.mpr ⟨rfl, List.forall_mem_cons.mpr ⟨rfl, List.forall_mem_cons.mpr ⟨rfl, List.forall_mem_cons.mpr ⟨rfl, List.forall_mem_cons.mpr ⟨rfl, fun _ h9 => absurd h9 List.not_mem_nil⟩⟩⟩⟩⟩⟩
    refine mbQ_i (As := []) (rest := []) Lc S9 k0 hP hD hS hA (c11_hour_n (l := l) (D := D) (ad_this := (ad 0)) (cy_this := (cy 0)) (z_this_tape := (ad 1 0)) (z_this_ladderReader := (ad 2 0)) (z_this_ruleReader := (ad 3 0)) (z_this_rules := rls) (z_this_ruleCount := (nn m)) (z_this_images := ims) (z_this_past := pst) (z_this_pastNext := (nn nx)) (z_this_pastCount := (nn c)) (z_this_outlook := (ad 7 0)) (z_this_paths := (ad 9 0)) (z_this_siege := (ad 10 0)) (ad_this_hours := (ad 6)) (cy_this_hours := (cy 6)) (z_this_hours_brokenRung := hbr) (z_this_hours_will := hwl) (z_this_hours_deed := hde) (z_this_hours_words := hwo) (ad_this_now := (ad 4)) (cy_this_now := (cy 4)) (z_this_now_force := fo) (z_this_now_x := x) (z_this_now_notes := notes) (z_this_now_noteHour := nh) (z_this_now_noteRung := nr) (z_this_now_noteMany := nm) (z_this_now_made := md) (ad_this_now_world := (ad 5)) (cy_this_now_world := (cy 5)) (z_this_now_world_hour := hour) (z_this_now_world_broken := broken) (z_this_now_world_rung := rung) (z_this_now_world_grip := grip) (z_this_now_world_want := want) (z_this_now_world_slips := slips) (z_this_now_world_worn := worn) (ad_this_now_world_ladder := lh) (cy_this_now_world_ladder := ly) (z_this_now_world_ladder_rungs := ru) (z_this_now_world_ladder_people := pe) (z_this_now_world_ladder_startBroken := sb) (z_this_now_world_ladder_room := ro) (z_this_now_world_ladder_strength := str) (z_this_now_world_ladder_weight := wt) (z_this_now_world_ladder_told := tol) (z_this_now_world_ladder_startRung := srr) (z_this_now_world_ladder_startWant := sww) (ad_this_pastAt := (ad (20 + nx))) (cy_this_pastAt := (cy (20 + nx))) (z_this_pastAt_ladder := (pq nx)) (z_this_pastAt_hour := (ph nx)) (z_this_pastAt_broken := (pb nx)) (z_this_pastAt_rung := (pr nx)) (z_this_pastAt_grip := (pg nx)) (z_this_pastAt_want := (pw nx)) (z_this_pastAt_slips := (pz nx)) (z_this_pastAt_worn := (pk nx)) (o_ret := v) (o_this_pastNext := (nn nx1)) (o_this_pastCount := (nn c1)) (o_this_hours_brokenRung := hb1) (o_this_hours_will := wl1) (o_this_hours_deed := de1) (o_this_now_world_hour := ho1) (o_this_now_world_broken := br1) (o_this_now_world_rung := rg1) (o_this_now_world_grip := gr1) (o_this_now_world_slips := sl1) (o_this_now_world_worn := wn1) (o_this_pastAt_hour := ah) (o_this_pastAt_broken := ab) (o_this_pastAt_rung := ar) (o_this_pastAt_grip := ag) (o_this_pastAt_want := aw) (o_this_pastAt_slips := az) (o_this_pastAt_worn := ak) (o_link_this_pastAt := q1) hc) hnd hlt hkL hbL (by rw [hLc]; rfl) (by rw [hLc]; simp only [List.flatMap_cons, List.flatMap_nil, List.append_nil, List.append_assoc]; rw [b0, b6, b4, b5, bl, (hpb nx hsx)]) (by rw [hLc]; simp only [List.flatMap_cons, List.flatMap_nil, List.append_nil, List.append_assoc]; rw [hu0, hu6, b4, hu5, bl, hu20nx]) (gdV mw_31_0 mw_31_1 mw_31_2 mw_1_2 mw_31_3) rfl rfl hd_f11_hour_n ⟨Nat.le_of_ble_eq_true rfl, Nat.le_of_ble_eq_true rfl⟩ (ci := 11) (q0 := 0) rfl rfl rfl hl.1 rfl (Nat.le_of_ble_eq_true rfl) dL_law_382 hf9 (fun H locs hP hD hS => ?_)
    obtain ⟨bc, hbc⟩ : ∃ X, X = bsetL bs Lc := ⟨_, rfl⟩
    rw [← hbc] at hP hD
    have t0 : bc 0 = u0 := by rw [hbc]; exact bsetL_at (x := (0, tLL (cy 0), bs 0, u0)) hnd (by rw [hLc]; exact List.mem_of_getElem? (i := 0) rfl)
    have t1 : bc 6 = u6 := by rw [hbc]; exact bsetL_at (x := (6, tH (cy 6), bs 6, u6)) hnd (by rw [hLc]; exact List.mem_of_getElem? (i := 1) rfl)
    have t2 : bc 4 = bs 4 := by rw [hbc]; exact bsetL_at (x := (4, tSt (cy 4), bs 4, bs 4)) hnd (by rw [hLc]; exact List.mem_of_getElem? (i := 2) rfl)
    have t3 : bc 5 = u5 := by rw [hbc]; exact bsetL_at (x := (5, tW (cy 5), bs 5, u5)) hnd (by rw [hLc]; exact List.mem_of_getElem? (i := 3) rfl)
    have t4 : bc jl = bs jl := by rw [hbc]; exact bsetL_at (x := (jl, tLd ly, bs jl, bs jl)) hnd (by rw [hLc]; exact List.mem_of_getElem? (i := 4) rfl)
    have t5 : bc (20 + nx) = u20nx := by rw [hbc]; exact bsetL_at (x := ((20 + nx), tW (cy (20 + nx)), bs (20 + nx), u20nx)) hnd (by rw [hLc]; exact List.mem_of_getElem? (i := 5) rfl)
    have E1 : ∀ j, (j ≠ 0 ∧ j ≠ 6 ∧ j ≠ 5 ∧ j ≠ (20 + nx)) → bc j = bs j := by
      intro j hj
      by_cases q2 : j = 4
      · rw [q2]; exact t2
      by_cases q4 : j = jl
      · rw [q4]; exact t4
      rw [hbc]
      exact bsetL_ne (by rw [hLc]; show j ∉ ([0, 6, 4, 5, jl, (20 + nx)] : List Nat); simp only [List.mem_cons, List.not_mem_nil, or_false, not_or]; omega)
    refine lv_aload_n hx hb dL_law_385 rfl (lv_at hl 1 rfl) ?_
    obtain ⟨um, hum⟩ : ∃ X : va_W, X = (cM (ad 46) (cy 46) tape len (nn m) sign lg clause clauses rd nxt wrg num txt mde dep lns opn opd stk tp wd S1 fo x wi1 mo1 bk1 w1 (nn c1) kpt bhr far que qud onw mvp mvk isf sth drx im imF imX imM) := ⟨_, rfl⟩
    have bm : bc 46 = _ := (E1 46 (by omega)).trans b46
    obtain ⟨Lm, hLm⟩ : ∃ X : List (Nat × List (ClassId × FieldType) × va_W × va_W), X = [(46, tM (cy 46), bc 46, um)] := ⟨_, rfl⟩
    have hnm : (Lm.map Prod.fst).Nodup := by rw [hLm]; show ([46] : List Nat).Nodup; decide
    refine mbQ_i (As := []) (rest := [.int v]) Lm S9 k0 hP hD hS hA (c12_hour (l := l) (D := D) (ad := (ad 46)) (cy := (cy 46)) (z_tape := tape) (z_taped := len) (z_rules := (nn m)) (z_sign := sign) (z_length := lg) (z_clause := clause) (z_clauses := clauses) (z_read := rd) (z_next := nxt) (z_wrong := wrg) (z_number := num) (z_text := txt) (z_made := mde) (z_deep := dep) (z_lines := lns) (z_open := opn) (z_opened := opd) (z_stack := stk) (z_top := tp) (z_word := wd) (z_said := S) (z_force := fo) (z_x := x) (z_will := wil) (z_moved := mov) (z_broke := brk) (z_wasSaid := w) (z_undone := (nn c)) (z_kept := kpt) (z_breakHour := bhr) (z_far := far) (z_queue := que) (z_queued := qud) (z_isOnWay := onw) (z_movePerson := mvp) (z_moveKind := mvk) (z_isFit := isf) (z_standThen := sth) (z_drawX := drx) (z_images := im) (z_imageForce := imF) (z_imageX := imX) (z_isMade := imM) (o_ret := v) (o_stack := stk) (o_top := tp) (o_word := wd) (o_said := S1) (o_will := wi1) (o_moved := mo1) (o_broke := bk1) (o_wasSaid := w1) (o_undone := (nn c1)) hm) hnm (by rw [hLm]; exact List.forall_mem_cons.mpr ⟨show 46 < N by omega, fun _ h9 => absurd h9 List.not_mem_nil⟩) (by rw [hLm]; exact List.forall_mem_cons.mpr ⟨kM, fun _ h9 => absurd h9 List.not_mem_nil⟩) (by rw [hLm]; exact List.forall_mem_cons.mpr ⟨rfl, fun _ h9 => absurd h9 List.not_mem_nil⟩) (by rw [hLm]; rfl) (by rw [hLm]; simp only [List.flatMap_cons, List.flatMap_nil, List.append_nil, List.append_assoc]; rw [bm]) (by rw [hLm]; simp only [List.flatMap_cons, List.flatMap_nil, List.append_nil, List.append_assoc]; rw [hum]) (gdV mw_36_6 mw_36_7 mw_36_8 mw_1_5 mw_36_9) rfl rfl hd_f12_hour ⟨Nat.le_of_ble_eq_true rfl, Nat.le_of_ble_eq_true rfl⟩ (ci := 12) (q0 := 0) rfl rfl rfl hl.1 rfl (Nat.le_of_ble_eq_true rfl) dL_law_386 hf9 (fun H locs hP hD hS => ?_)
    obtain ⟨bn, hbn⟩ : ∃ X, X = bsetL bc Lm := ⟨_, rfl⟩
    rw [← hbn] at hP hD
    have tm : bn 46 = um := by rw [hbn]; exact bsetL_at (x := (46, tM (cy 46), bc 46, um)) hnm (by rw [hLm]; exact List.mem_of_getElem? (i := 0) rfl)
    have E2 : ∀ j, j ≠ 46 → bn j = bc j := by
      intro j hj
      rw [hbn]
      exact bsetL_ne (by rw [hLm]; show j ∉ ([46] : List Nat); simp only [List.mem_cons, List.not_mem_nil, or_false]; exact hj)
    have E : ∀ j, (j ≠ 46 ∧ j ≠ 0 ∧ j ≠ 6 ∧ j ≠ 5 ∧ j ≠ (20 + nx)) → bn j = bs j := fun j hj => (E2 j (by omega)).trans (E1 j (by omega))
    have s0 : bn 0 = u0 := (E2 _ (by omega)).trans t0
    have s1 : bn 6 = u6 := (E2 _ (by omega)).trans t1
    have s3 : bn 5 = u5 := (E2 _ (by omega)).trans t3
    have s5 : bn (20 + nx) = u20nx := (E2 _ (by omega)).trans t5
    refine lv_icmp_eq (tgt := 1115) hx hb dL_law_389 rfl (fun _ => ?_) (fun c8 => absurd rfl c8)
    refine W.widen (k := cells + 8) (n := slots + 13200) (Nat.le_add_right _ _) (Nat.le_add_right _ _) ?_
    have EL : ∀ j, 47 ≤ j → j < N → bn j = bs j := fun j h1 h2 => E j (by omega)
    exact kk N bn H locs ⟨m, c1, nx1, tn, R, P, (lh 0), rls, bytes, len, fo, x, notes, nh, nr, nm, ho1, br1, rg1, gr1, want, sl1, wn1, tape, sign, clause, clauses, S1, w1, im, imF, imX, imM, hN, (s0.trans hu0), hBT.congr (E 1 (by omega)), (E 2 (by omega)).trans b2, hBRR.congr (E 3 (by omega)), hBN.congr (E 4 (by omega)), (s3.trans hu5), ⟨_, _, _, _, (s1.trans hu6)⟩, hBO.congr (E 7 (by omega)), hB8.congr (E 8 (by omega)), hBP.congr (E 9 (by omega)), hBS.congr (E 10 (by omega)), hB11.congr (E 11 (by omega)), (hSc.act hW1 hI1 hSt hh1).congr (Nat.le_refl _) EL, BPs.mk' hpb (s5.trans hu20nx) (fun k h1 h2 => E _ (by omega)) hR1 (PQ_act hn20 hpq hKQ hhr), hIm.congr (Nat.le_refl _) (Nat.le_refl _) (fun k hk => E _ (by omega)) EL, hRu.congr (fun j hj => E _ (by omega)) hm6, ⟨_, _, _, _, _, _, _, _, _, _, _, _, _, _, _, _, _, _, _, _, _, _, _, _, _, _, _, _, tm.trans hum⟩, hTP, hm6, hof, hox⟩ hP hD hS
  · skip
    obtain ⟨rh, ry, rnc, rco, rns, rse, rnt, rte, rsk, rtp, rcs, hrl, bru, kru, hr1, hr2, hr3⟩ := hRu.1 f hfm
    have hRE := rEv hr1 hr2 hr3 (show f < 6 by omega)
    obtain ⟨v, nx1, c1, ah, ab, ar, ag, aw, az, ak, q1, S1, w1, hb1, wl1, de1, ho1, br1, rg1, gr1, sl1, wn1, wi1, mo1, bk1, wo1, sk1, tq1, st1, tp1, wd1, hc, hm, hW1, hI1, hSt, hR1, hKQ, hh1⟩ := r_hour_r (rls := rls) (rc := nn m) (fo := fo) (hb0 := hbr) (bk0 := brk) (tp := tp) (will0 := hwl) (deed0 := hde) (wil0 := wil) (moved0 := mov) (sign := sign) (clause := clause) (clauses := clauses) (st := stk) (wd := wd) (words := hwo) (stack := rsk) (top := rtp) (qn := lh 0) (qp := pq nx) hRP hI hW hL (kPs nx hn20).2 hhr (f := f) (by omega) hfo (by rw [hfo]; exact nle (by omega) (by omega) (by omega)) hrl (hfo ▸ hRE)
    refine lv_aload_n hx hb dL_law_381 rfl (lv_at hl 2 rfl) ?_
    obtain ⟨u0, hu0⟩ : ∃ X : va_W, X = cLL (ad 0) (cy 0) (ad 1 0) (ad 2 0) (ad 3 0) rls (nn m) ((ad 4) 0) ims pst (nn nx1) (nn c1) ((ad 6) 0) (ad 7 0) (ad 9 0) (ad 10 0) := ⟨_, rfl⟩
    obtain ⟨u6, hu6⟩ : ∃ X : va_W, X = cH (ad 6) (cy 6) hb1 wl1 de1 wo1 := ⟨_, rfl⟩
    obtain ⟨u5, hu5⟩ : ∃ X : va_W, X = cW (ad 5) (cy 5) (lh 0) ho1 br1 rg1 gr1 want sl1 wn1 := ⟨_, rfl⟩
    obtain ⟨u20nx, hu20nx⟩ : ∃ X : va_W, X = cW (ad (20 + nx)) (cy (20 + nx)) q1 ah ab ar ag aw az ak := ⟨_, rfl⟩
    obtain ⟨u40f, hu40f⟩ : ∃ X : va_W, X = cRu rh ry rnc rco rns rse rnt rte sk1 tq1 := ⟨_, rfl⟩
    obtain ⟨Lc, hLc⟩ : ∃ X : List (Nat × List (ClassId × FieldType) × va_W × va_W), X = [(0, tLL (cy 0), bs 0, u0), (6, tH (cy 6), bs 6, u6), (4, tSt (cy 4), bs 4, bs 4), (5, tW (cy 5), bs 5, u5), (jl, tLd ly, bs jl, bs jl), ((20 + nx), tW (cy (20 + nx)), bs (20 + nx), u20nx), ((40 + f), tRu ry, bs (40 + f), u40f)] := ⟨_, rfl⟩
    have hnd : (Lc.map Prod.fst).Nodup := by rw [hLc]; show ([0, 6, 4, 5, jl, (20 + nx), (40 + f)] : List Nat).Nodup; simp only [List.nodup_cons, List.mem_cons, List.not_mem_nil, or_false, not_or, List.nodup_nil, and_true, not_false_eq_true] <;> omega
    have hlt : ∀ x ∈ Lc, x.1 < N := by rw [hLc]; exact List.forall_mem_cons.mpr ⟨show 0 < N by omega, List.forall_mem_cons.mpr ⟨show 6 < N by omega, List.forall_mem_cons.mpr ⟨show 4 < N by omega, List.forall_mem_cons.mpr ⟨show 5 < N by omega, List.forall_mem_cons.mpr ⟨show jl < N by omega, List.forall_mem_cons.mpr ⟨show (20 + nx) < N by omega, List.forall_mem_cons.mpr ⟨show (40 + f) < N by omega, fun _ h9 => absurd h9 List.not_mem_nil⟩⟩⟩⟩⟩⟩⟩
    have hkL : ∀ x ∈ Lc, va_K D vwCl x.2.1 s := by rw [hLc]; exact List.forall_mem_cons.mpr ⟨kLL, List.forall_mem_cons.mpr ⟨kH, List.forall_mem_cons.mpr ⟨kS4, List.forall_mem_cons.mpr ⟨kW5, List.forall_mem_cons.mpr ⟨kl, List.forall_mem_cons.mpr ⟨(kPs nx hsx).1, List.forall_mem_cons.mpr ⟨kru, fun _ h9 => absurd h9 List.not_mem_nil⟩⟩⟩⟩⟩⟩⟩
    have hbL : ∀ x ∈ Lc, bs x.1 = x.2.2.1 := by rw [hLc]; exact List.forall_mem_cons.mpr ⟨rfl, List.forall_mem_cons.mpr ⟨rfl, List.forall_mem_cons.mpr ⟨rfl, List.forall_mem_cons.mpr ⟨rfl, List.forall_mem_cons.mpr ⟨rfl, List.forall_mem_cons.mpr ⟨rfl, List.forall_mem_cons.mpr ⟨rfl, fun _ h9 => absurd h9 List.not_mem_nil⟩⟩⟩⟩⟩⟩⟩
    refine mbQ_i (As := []) (rest := []) Lc S9 k0 hP hD hS hA (c11_hour_r (l := l) (D := D) (ad_this := (ad 0)) (cy_this := (cy 0)) (z_this_tape := (ad 1 0)) (z_this_ladderReader := (ad 2 0)) (z_this_ruleReader := (ad 3 0)) (z_this_rules := rls) (z_this_ruleCount := (nn m)) (z_this_images := ims) (z_this_past := pst) (z_this_pastNext := (nn nx)) (z_this_pastCount := (nn c)) (z_this_outlook := (ad 7 0)) (z_this_paths := (ad 9 0)) (z_this_siege := (ad 10 0)) (ad_this_hours := (ad 6)) (cy_this_hours := (cy 6)) (z_this_hours_brokenRung := hbr) (z_this_hours_will := hwl) (z_this_hours_deed := hde) (z_this_hours_words := hwo) (ad_this_now := (ad 4)) (cy_this_now := (cy 4)) (z_this_now_force := fo) (z_this_now_x := x) (z_this_now_notes := notes) (z_this_now_noteHour := nh) (z_this_now_noteRung := nr) (z_this_now_noteMany := nm) (z_this_now_made := md) (ad_this_now_world := (ad 5)) (cy_this_now_world := (cy 5)) (z_this_now_world_hour := hour) (z_this_now_world_broken := broken) (z_this_now_world_rung := rung) (z_this_now_world_grip := grip) (z_this_now_world_want := want) (z_this_now_world_slips := slips) (z_this_now_world_worn := worn) (ad_this_now_world_ladder := lh) (cy_this_now_world_ladder := ly) (z_this_now_world_ladder_rungs := ru) (z_this_now_world_ladder_people := pe) (z_this_now_world_ladder_startBroken := sb) (z_this_now_world_ladder_room := ro) (z_this_now_world_ladder_strength := str) (z_this_now_world_ladder_weight := wt) (z_this_now_world_ladder_told := tol) (z_this_now_world_ladder_startRung := srr) (z_this_now_world_ladder_startWant := sww) (ad_this_pastAt := (ad (20 + nx))) (cy_this_pastAt := (cy (20 + nx))) (z_this_pastAt_ladder := (pq nx)) (z_this_pastAt_hour := (ph nx)) (z_this_pastAt_broken := (pb nx)) (z_this_pastAt_rung := (pr nx)) (z_this_pastAt_grip := (pg nx)) (z_this_pastAt_want := (pw nx)) (z_this_pastAt_slips := (pz nx)) (z_this_pastAt_worn := (pk nx)) (ad_this_rulesAt := rh) (cy_this_rulesAt := ry) (n_this_rulesAt_code := rnc) (z_this_rulesAt_code := rco) (n_this_rulesAt_sumEnd := rns) (z_this_rulesAt_sumEnd := rse) (n_this_rulesAt_testEnd := rnt) (z_this_rulesAt_testEnd := rte) (z_this_rulesAt_stack := rsk) (z_this_rulesAt_top := rtp) (o_ret := v) (o_this_pastNext := (nn nx1)) (o_this_pastCount := (nn c1)) (o_this_hours_brokenRung := hb1) (o_this_hours_will := wl1) (o_this_hours_deed := de1) (o_this_hours_words := wo1) (o_this_now_world_hour := ho1) (o_this_now_world_broken := br1) (o_this_now_world_rung := rg1) (o_this_now_world_grip := gr1) (o_this_now_world_slips := sl1) (o_this_now_world_worn := wn1) (o_this_pastAt_hour := ah) (o_this_pastAt_broken := ab) (o_this_pastAt_rung := ar) (o_this_pastAt_grip := ag) (o_this_pastAt_want := aw) (o_this_pastAt_slips := az) (o_this_pastAt_worn := ak) (o_this_rulesAt_stack := sk1) (o_this_rulesAt_top := tq1) (o_link_this_pastAt := q1) hc) hnd hlt hkL hbL (by rw [hLc]; rfl) (by rw [hLc]; simp only [List.flatMap_cons, List.flatMap_nil, List.append_nil, List.append_assoc]; rw [b0, b6, b4, b5, bl, (hpb nx hsx), bru]) (by rw [hLc]; simp only [List.flatMap_cons, List.flatMap_nil, List.append_nil, List.append_assoc]; rw [hu0, hu6, b4, hu5, bl, hu20nx, hu40f]) (gdV mw_31_0 mw_31_1 mw_31_2 mw_1_2 mw_31_3) rfl rfl hd_f11_hour_r ⟨Nat.le_of_ble_eq_true rfl, Nat.le_of_ble_eq_true rfl⟩ (ci := 11) (q0 := 0) rfl rfl rfl hl.1 rfl (Nat.le_of_ble_eq_true rfl) dL_law_382 hf9 (fun H locs hP hD hS => ?_)
    obtain ⟨bc, hbc⟩ : ∃ X, X = bsetL bs Lc := ⟨_, rfl⟩
    rw [← hbc] at hP hD
    have t0 : bc 0 = u0 := by rw [hbc]; exact bsetL_at (x := (0, tLL (cy 0), bs 0, u0)) hnd (by rw [hLc]; exact List.mem_of_getElem? (i := 0) rfl)
    have t1 : bc 6 = u6 := by rw [hbc]; exact bsetL_at (x := (6, tH (cy 6), bs 6, u6)) hnd (by rw [hLc]; exact List.mem_of_getElem? (i := 1) rfl)
    have t2 : bc 4 = bs 4 := by rw [hbc]; exact bsetL_at (x := (4, tSt (cy 4), bs 4, bs 4)) hnd (by rw [hLc]; exact List.mem_of_getElem? (i := 2) rfl)
    have t3 : bc 5 = u5 := by rw [hbc]; exact bsetL_at (x := (5, tW (cy 5), bs 5, u5)) hnd (by rw [hLc]; exact List.mem_of_getElem? (i := 3) rfl)
    have t4 : bc jl = bs jl := by rw [hbc]; exact bsetL_at (x := (jl, tLd ly, bs jl, bs jl)) hnd (by rw [hLc]; exact List.mem_of_getElem? (i := 4) rfl)
    have t5 : bc (20 + nx) = u20nx := by rw [hbc]; exact bsetL_at (x := ((20 + nx), tW (cy (20 + nx)), bs (20 + nx), u20nx)) hnd (by rw [hLc]; exact List.mem_of_getElem? (i := 5) rfl)
    have t6 : bc (40 + f) = u40f := by rw [hbc]; exact bsetL_at (x := ((40 + f), tRu ry, bs (40 + f), u40f)) hnd (by rw [hLc]; exact List.mem_of_getElem? (i := 6) rfl)
    have E1 : ∀ j, (j ≠ 0 ∧ j ≠ 6 ∧ j ≠ 5 ∧ j ≠ (20 + nx) ∧ j ≠ (40 + f)) → bc j = bs j := by
      intro j hj
      by_cases q2 : j = 4
      · rw [q2]; exact t2
      by_cases q4 : j = jl
      · rw [q4]; exact t4
      rw [hbc]
      exact bsetL_ne (by rw [hLc]; show j ∉ ([0, 6, 4, 5, jl, (20 + nx), (40 + f)] : List Nat); simp only [List.mem_cons, List.not_mem_nil, or_false, not_or]; omega)
    refine lv_aload_n hx hb dL_law_385 rfl (lv_at hl 1 rfl) ?_
    obtain ⟨um, hum⟩ : ∃ X : va_W, X = (cM (ad 46) (cy 46) tape len (nn m) sign lg clause clauses rd nxt wrg num txt mde dep lns opn opd st1 tp1 wd1 S1 fo x wi1 mo1 bk1 w1 (nn c1) kpt bhr far que qud onw mvp mvk isf sth drx im imF imX imM) := ⟨_, rfl⟩
    have bm : bc 46 = _ := (E1 46 (by omega)).trans b46
    obtain ⟨Lm, hLm⟩ : ∃ X : List (Nat × List (ClassId × FieldType) × va_W × va_W), X = [(46, tM (cy 46), bc 46, um)] := ⟨_, rfl⟩
    have hnm : (Lm.map Prod.fst).Nodup := by rw [hLm]; show ([46] : List Nat).Nodup; decide
    refine mbQ_i (As := []) (rest := [.int v]) Lm S9 k0 hP hD hS hA (c12_hour (l := l) (D := D) (ad := (ad 46)) (cy := (cy 46)) (z_tape := tape) (z_taped := len) (z_rules := (nn m)) (z_sign := sign) (z_length := lg) (z_clause := clause) (z_clauses := clauses) (z_read := rd) (z_next := nxt) (z_wrong := wrg) (z_number := num) (z_text := txt) (z_made := mde) (z_deep := dep) (z_lines := lns) (z_open := opn) (z_opened := opd) (z_stack := stk) (z_top := tp) (z_word := wd) (z_said := S) (z_force := fo) (z_x := x) (z_will := wil) (z_moved := mov) (z_broke := brk) (z_wasSaid := w) (z_undone := (nn c)) (z_kept := kpt) (z_breakHour := bhr) (z_far := far) (z_queue := que) (z_queued := qud) (z_isOnWay := onw) (z_movePerson := mvp) (z_moveKind := mvk) (z_isFit := isf) (z_standThen := sth) (z_drawX := drx) (z_images := im) (z_imageForce := imF) (z_imageX := imX) (z_isMade := imM) (o_ret := v) (o_stack := st1) (o_top := tp1) (o_word := wd1) (o_said := S1) (o_will := wi1) (o_moved := mo1) (o_broke := bk1) (o_wasSaid := w1) (o_undone := (nn c1)) hm) hnm (by rw [hLm]; exact List.forall_mem_cons.mpr ⟨show 46 < N by omega, fun _ h9 => absurd h9 List.not_mem_nil⟩) (by rw [hLm]; exact List.forall_mem_cons.mpr ⟨kM, fun _ h9 => absurd h9 List.not_mem_nil⟩) (by rw [hLm]; exact List.forall_mem_cons.mpr ⟨rfl, fun _ h9 => absurd h9 List.not_mem_nil⟩) (by rw [hLm]; rfl) (by rw [hLm]; simp only [List.flatMap_cons, List.flatMap_nil, List.append_nil, List.append_assoc]; rw [bm]) (by rw [hLm]; simp only [List.flatMap_cons, List.flatMap_nil, List.append_nil, List.append_assoc]; rw [hum]) (gdV mw_36_6 mw_36_7 mw_36_8 mw_1_5 mw_36_9) rfl rfl hd_f12_hour ⟨Nat.le_of_ble_eq_true rfl, Nat.le_of_ble_eq_true rfl⟩ (ci := 12) (q0 := 0) rfl rfl rfl hl.1 rfl (Nat.le_of_ble_eq_true rfl) dL_law_386 hf9 (fun H locs hP hD hS => ?_)
    obtain ⟨bn, hbn⟩ : ∃ X, X = bsetL bc Lm := ⟨_, rfl⟩
    rw [← hbn] at hP hD
    have tm : bn 46 = um := by rw [hbn]; exact bsetL_at (x := (46, tM (cy 46), bc 46, um)) hnm (by rw [hLm]; exact List.mem_of_getElem? (i := 0) rfl)
    have E2 : ∀ j, j ≠ 46 → bn j = bc j := by
      intro j hj
      rw [hbn]
      exact bsetL_ne (by rw [hLm]; show j ∉ ([46] : List Nat); simp only [List.mem_cons, List.not_mem_nil, or_false]; exact hj)
    have E : ∀ j, (j ≠ 46 ∧ j ≠ 0 ∧ j ≠ 6 ∧ j ≠ 5 ∧ j ≠ (20 + nx) ∧ j ≠ (40 + f)) → bn j = bs j := fun j hj => (E2 j (by omega)).trans (E1 j (by omega))
    have s0 : bn 0 = u0 := (E2 _ (by omega)).trans t0
    have s1 : bn 6 = u6 := (E2 _ (by omega)).trans t1
    have s3 : bn 5 = u5 := (E2 _ (by omega)).trans t3
    have s5 : bn (20 + nx) = u20nx := (E2 _ (by omega)).trans t5
    have s6 : bn (40 + f) = u40f := (E2 _ (by omega)).trans t6
    refine lv_icmp_eq (tgt := 1115) hx hb dL_law_389 rfl (fun _ => ?_) (fun c8 => absurd rfl c8)
    refine W.widen (k := cells + 8) (n := slots + 13200) (Nat.le_add_right _ _) (Nat.le_add_right _ _) ?_
    have EL : ∀ j, 47 ≤ j → j < N → bn j = bs j := fun j h1 h2 => E j (by omega)
    exact kk N bn H locs ⟨m, c1, nx1, tn, R, P, (lh 0), rls, bytes, len, fo, x, notes, nh, nr, nm, ho1, br1, rg1, gr1, want, sl1, wn1, tape, sign, clause, clauses, S1, w1, im, imF, imX, imM, hN, (s0.trans hu0), hBT.congr (E 1 (by omega)), (E 2 (by omega)).trans b2, hBRR.congr (E 3 (by omega)), hBN.congr (E 4 (by omega)), (s3.trans hu5), ⟨_, _, _, _, (s1.trans hu6)⟩, hBO.congr (E 7 (by omega)), hB8.congr (E 8 (by omega)), hBP.congr (E 9 (by omega)), hBS.congr (E 10 (by omega)), hB11.congr (E 11 (by omega)), (hSc.act hW1 hI1 hSt hh1).congr (Nat.le_refl _) EL, BPs.mk' hpb (s5.trans hu20nx) (fun k h1 h2 => E _ (by omega)) hR1 (PQ_act hn20 hpq hKQ hhr), hIm.congr (Nat.le_refl _) (Nat.le_refl _) (fun k hk => E _ (by omega)) EL, hRu.run hm6 hfm hrl (s6.trans hu40f) kru hr1 hr2 hr3 (fun j h1 h2 => E _ (by omega)), ⟨_, _, _, _, _, _, _, _, _, _, _, _, _, _, _, _, _, _, _, _, _, _, _, _, _, _, _, _, tm.trans hum⟩, hTP, hm6, hof, hox⟩ hP hD hS

end
