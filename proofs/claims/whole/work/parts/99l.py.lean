/-! the law's cases: moves, move, squeeze -/
section
variable {p : Program} {l : Launch} {e : Env} {s : State} {m9 : MethodId} {below : List Frame} {meth : Method} {c9 : Code} {Q : State → Prop} {D : va_G} {A : Nat → Prop} {adK adV : Nat → Nat} {ad : Nat → Nat → Nat} {cy : Nat → Nat → ClassId} {ims pst : Nat → Option Nat} {b L i N : Nat} {xs : Nat → Int32} {bs : Nat → va_W} {H : Heap} {locs : List Loc} {cells slots : Nat} {ls : Array Slot}
set_option maxHeartbeats 8000000 in
set_option maxRecDepth 100000 in
theorem k_moves (C : Cx p m9 c9 s A D adK adV ad cy ims pst b L xs) (hi : i + 6 ≤ L) (T : Top D s ad cy ims pst N bs) (hP : va_P D vwCl (bW N bs) H) (hD : va_D A (bW N bs)) (hS : va_S A s.heap H locs) (hl : lv_has ls 4 (lvL ad b i)) (hf : cells + 8 ≤ 600000 ∧ slots + 13200 ≤ 7302250)
    (kk : ∀ (N : Nat) (bs : Nat → va_W) (H : Heap) (locs : List Loc), Top D s ad cy ims pst N bs → va_P D vwCl (bW N bs) H → va_D A (bW N bs) → va_S A s.heap H locs → W p l e room_1 s m9 #[.ref b] below meth c9 H locs (cells + 8) (slots + 13200) Q (F0 m9 1115 ls [])) : W p l e room_1 s m9 #[.ref b] below meth c9 H locs cells slots Q (F0 m9 634 ls []) := by
  obtain ⟨m, c, nx, tn, R, P, A0, rls, bytes, len, fo, x, notes, nh, nr, nm, hour, broken, rung, grip, want, slips, worn, tape, sign, clause, clauses, S, w, im, imF, imX, imM, hN, b0, hBT, b2, hBRR, hBN, b5, hBH, hBO, hB8, hBP, hBS, hB11, hSc, hPs, hIm, hRu, hBM, hTP, hm6, hof, hox⟩ := T
  obtain ⟨S9, hA, hbA, hbl, hX, hL9, hF, hE9, hV9⟩ := id C
  obtain ⟨hx, hb, hml, hown, hts⟩ := id S9
  obtain ⟨k0, kLL, kTp, kRR, kS4, kW5, kH, kO, kW8, kW11, kM, kIm, kPs⟩ := id hF
  have hf9 : cells ≤ room_1.cells ∧ slots ≤ room_1.slots := ⟨Nat.le_trans (Nat.le_add_right _ _) hf.1, Nat.le_trans (Nat.le_add_right _ _) hf.2⟩
  obtain ⟨lg, rd, nxt, wrg, num, txt, mde, dep, lns, opn, opd, stk, tp, wd, wil, mov, brk, kpt, bhr, far, que, qud, onw, mvp, mvk, isf, sth, drx, b46⟩ := id hBM
  obtain ⟨jl, lh, ly, ru, pe, sb, ro, str, wt, tol, srr, sww, g1, g2, g3, bl, kl, hI, hW, hL, hWT, hBg, hhr, hNo⟩ := id hSc
  subst g3
  obtain ⟨md, b4⟩ := id hBN
  obtain ⟨hp9, yp9, n9, ps9, pf9, pq9, pt9, pg9, pl9, pd9, pr9, pc9, pa9, pb9, hn9, b9, k9⟩ := id hBP
  have hcase : (n9 = 6561 ∨ ¬ PW R P S (xs (i + 1))) ∨ (n9 = 0 ∧ PW R P S (xs (i + 1))) := by
    rcases hn9 with h | h
    · by_cases q : PW R P S (xs (i + 1))
      · exact Or.inr ⟨h, q⟩
      · exact Or.inl (Or.inr q)
    · exact Or.inl (Or.inl h)
  rcases hcase with hnp | ⟨hn0, hpw⟩
  · skip
    obtain ⟨v, z_set, z_from, z_queue, z_tail, z_goal, z_rowLength, z_digit, z_rung, z_crowd, z_above, z_below, far1, fq1, fu1, hc, hm⟩ := r_moves (n := n9) (pset := ps9) (t0 := pt9) (goal := pg9) (rowl := pl9) (f0 := pf9) (q0 := pq9) (rung := pr9) (crowd := pc9) (digit := pd9) (above := pa9) (below := pb9) (far := far) (fq := que) (fu := qud) hI hW hL (xs (i + 1)) hnp
    refine lv_aload_n hx hb dL_law_634 rfl (lv_at hl 2 rfl) ?_
    refine ld1 C hS hl hi dL_law_635 dL_law_636 dL_law_637 dL_law_638 dL_law_639 ?_
    obtain ⟨u9, hu9⟩ : ∃ X : va_W, X = cPt (ad 9 0) hp9 yp9 ((ad 5) 0) z_set n9 z_from n9 z_queue z_tail z_goal z_rowLength z_digit z_rung z_crowd z_above z_below := ⟨_, rfl⟩
    obtain ⟨Lc, hLc⟩ : ∃ X : List (Nat × List (ClassId × FieldType) × va_W × va_W), X = [(0, tLL (cy 0), bs 0, bs 0), (4, tSt (cy 4), bs 4, bs 4), (5, tW (cy 5), bs 5, bs 5), (jl, tLd ly, bs jl, bs jl), (9, tPt yp9, bs 9, u9)] := ⟨_, rfl⟩
    have hnd : (Lc.map Prod.fst).Nodup := by rw [hLc]; show ([0, 4, 5, jl, 9] : List Nat).Nodup; simp only [List.nodup_cons, List.mem_cons, List.not_mem_nil, or_false, not_or, List.nodup_nil, and_true, not_false_eq_true] <;> omega
    have hlt : ∀ x ∈ Lc, x.1 < N := by rw [hLc]; exact List.forall_mem_cons.mpr ⟨show 0 < N by omega, List.forall_mem_cons.mpr ⟨show 4 < N by omega, List.forall_mem_cons.mpr ⟨show 5 < N by omega, List.forall_mem_cons.mpr ⟨show jl < N by omega, List.forall_mem_cons.mpr ⟨show 9 < N by omega, fun _ h9 => absurd h9 List.not_mem_nil⟩⟩⟩⟩⟩
    have hkL : ∀ x ∈ Lc, va_K D vwCl x.2.1 s := by rw [hLc]; exact List.forall_mem_cons.mpr ⟨kLL, List.forall_mem_cons.mpr ⟨kS4, List.forall_mem_cons.mpr ⟨kW5, List.forall_mem_cons.mpr ⟨kl, List.forall_mem_cons.mpr ⟨k9, fun _ h9 => absurd h9 List.not_mem_nil⟩⟩⟩⟩⟩
    have hbL : ∀ x ∈ Lc, bs x.1 = x.2.2.1 := by rw [hLc]; exact List.forall_mem_cons.mpr ⟨rfl, List.forall_mem_cons.mpr ⟨rfl, List.forall_mem_cons.mpr ⟨rfl, List.forall_mem_cons.mpr ⟨rfl, List.forall_mem_cons.mpr ⟨rfl, fun _ h9 => absurd h9 List.not_mem_nil⟩⟩⟩⟩⟩
    refine mbQ_i (As := [.int (xs (i + 1))]) (rest := []) Lc S9 k0 hP hD hS hA (c11_moves_a (l := l) (D := D) (ad_this := (ad 0)) (cy_this := (cy 0)) (z_this_tape := (ad 1 0)) (z_this_ladderReader := (ad 2 0)) (z_this_ruleReader := (ad 3 0)) (z_this_rules := rls) (z_this_ruleCount := (nn m)) (z_this_images := ims) (z_this_past := pst) (z_this_pastNext := (nn nx)) (z_this_pastCount := (nn c)) (z_this_hours := (ad 6 0)) (z_this_outlook := (ad 7 0)) (z_this_siege := (ad 10 0)) (ad_this_now := (ad 4)) (cy_this_now := (cy 4)) (z_this_now_force := fo) (z_this_now_x := x) (z_this_now_notes := notes) (z_this_now_noteHour := nh) (z_this_now_noteRung := nr) (z_this_now_noteMany := nm) (z_this_now_made := md) (ad_this_now_world := (ad 5)) (cy_this_now_world := (cy 5)) (z_this_now_world_hour := hour) (z_this_now_world_broken := broken) (z_this_now_world_rung := rung) (z_this_now_world_grip := grip) (z_this_now_world_want := want) (z_this_now_world_slips := slips) (z_this_now_world_worn := worn) (ad_this_now_world_ladder := lh) (cy_this_now_world_ladder := ly) (z_this_now_world_ladder_rungs := ru) (z_this_now_world_ladder_people := pe) (z_this_now_world_ladder_startBroken := sb) (z_this_now_world_ladder_room := ro) (z_this_now_world_ladder_strength := str) (z_this_now_world_ladder_weight := wt) (z_this_now_world_ladder_told := tol) (z_this_now_world_ladder_startRung := srr) (z_this_now_world_ladder_startWant := sww) (aa_this_paths := (ad 9 0)) (ad_this_paths := hp9) (cy_this_paths := yp9) (z_this_paths_set := ps9) (n_this_paths_from := n9) (z_this_paths_from := pf9) (n_this_paths_queue := n9) (z_this_paths_queue := pq9) (z_this_paths_tail := pt9) (z_this_paths_goal := pg9) (z_this_paths_rowLength := pl9) (z_this_paths_digit := pd9) (z_this_paths_rung := pr9) (z_this_paths_crowd := pc9) (z_this_paths_above := pa9) (z_this_paths_below := pb9) (a1 := (xs (i + 1))) (o_ret := v) (o_this_paths_set := z_set) (o_this_paths_from := z_from) (o_this_paths_queue := z_queue) (o_this_paths_tail := z_tail) (o_this_paths_goal := z_goal) (o_this_paths_rowLength := z_rowLength) (o_this_paths_digit := z_digit) (o_this_paths_rung := z_rung) (o_this_paths_crowd := z_crowd) (o_this_paths_above := z_above) (o_this_paths_below := z_below) hc) hnd hlt hkL hbL (by rw [hLc]; rfl) (by rw [hLc]; simp only [List.flatMap_cons, List.flatMap_nil, List.append_nil, List.append_assoc]; rw [b0, b4, b5, bl, b9]) (by rw [hLc]; simp only [List.flatMap_cons, List.flatMap_nil, List.append_nil, List.append_assoc]; rw [b0, b4, b5, bl, hu9]) (gdV mw_45_9 mw_45_10 mw_45_11 mw_1_2 mw_45_12) rfl rfl hd_f11_moves ⟨Nat.le_of_ble_eq_true rfl, Nat.le_of_ble_eq_true rfl⟩ (ci := 11) (q0 := 0) rfl rfl rfl hl.1 rfl (Nat.le_of_ble_eq_true rfl) dL_law_640 hf9 (fun H locs hP hD hS => ?_)
    obtain ⟨bc, hbc⟩ : ∃ X, X = bsetL bs Lc := ⟨_, rfl⟩
    rw [← hbc] at hP hD
    have t0 : bc 0 = bs 0 := by rw [hbc]; exact bsetL_at (x := (0, tLL (cy 0), bs 0, bs 0)) hnd (by rw [hLc]; exact List.mem_of_getElem? (i := 0) rfl)
    have t1 : bc 4 = bs 4 := by rw [hbc]; exact bsetL_at (x := (4, tSt (cy 4), bs 4, bs 4)) hnd (by rw [hLc]; exact List.mem_of_getElem? (i := 1) rfl)
    have t2 : bc 5 = bs 5 := by rw [hbc]; exact bsetL_at (x := (5, tW (cy 5), bs 5, bs 5)) hnd (by rw [hLc]; exact List.mem_of_getElem? (i := 2) rfl)
    have t3 : bc jl = bs jl := by rw [hbc]; exact bsetL_at (x := (jl, tLd ly, bs jl, bs jl)) hnd (by rw [hLc]; exact List.mem_of_getElem? (i := 3) rfl)
    have t4 : bc 9 = u9 := by rw [hbc]; exact bsetL_at (x := (9, tPt yp9, bs 9, u9)) hnd (by rw [hLc]; exact List.mem_of_getElem? (i := 4) rfl)
    have E1 : ∀ j, (j ≠ 9) → bc j = bs j := by
      intro j hj
      by_cases q0 : j = 0
      · rw [q0]; exact t0
      by_cases q1 : j = 4
      · rw [q1]; exact t1
      by_cases q2 : j = 5
      · rw [q2]; exact t2
      by_cases q3 : j = jl
      · rw [q3]; exact t3
      rw [hbc]
      exact bsetL_ne (by rw [hLc]; show j ∉ ([0, 4, 5, jl, 9] : List Nat); simp only [List.mem_cons, List.not_mem_nil, or_false, not_or]; omega)
    refine lv_aload_n hx hb dL_law_643 rfl (lv_at hl 1 rfl) ?_
    refine ld1 C hS hl hi dL_law_644 dL_law_645 dL_law_646 dL_law_647 dL_law_648 ?_
    obtain ⟨um, hum⟩ : ∃ X : va_W, X = (cM (ad 46) (cy 46) tape len (nn m) sign lg clause clauses rd nxt wrg num txt mde dep lns opn opd stk tp wd S fo x wil mov brk w (nn c) kpt bhr far1 fq1 fu1 onw mvp mvk isf sth drx im imF imX imM) := ⟨_, rfl⟩
    have bm : bc 46 = _ := (E1 46 (by omega)).trans b46
    obtain ⟨Lm, hLm⟩ : ∃ X : List (Nat × List (ClassId × FieldType) × va_W × va_W), X = [(46, tM (cy 46), bc 46, um)] := ⟨_, rfl⟩
    have hnm : (Lm.map Prod.fst).Nodup := by rw [hLm]; show ([46] : List Nat).Nodup; decide
    refine mbQ_i (As := [.int (xs (i + 1))]) (rest := [.int v]) Lm S9 k0 hP hD hS hA (c12_moves (l := l) (D := D) (ad := (ad 46)) (cy := (cy 46)) (z_tape := tape) (z_taped := len) (z_rules := (nn m)) (z_sign := sign) (z_length := lg) (z_clause := clause) (z_clauses := clauses) (z_read := rd) (z_next := nxt) (z_wrong := wrg) (z_number := num) (z_text := txt) (z_made := mde) (z_deep := dep) (z_lines := lns) (z_open := opn) (z_opened := opd) (z_stack := stk) (z_top := tp) (z_word := wd) (z_said := S) (z_force := fo) (z_x := x) (z_will := wil) (z_moved := mov) (z_broke := brk) (z_wasSaid := w) (z_undone := (nn c)) (z_kept := kpt) (z_breakHour := bhr) (z_far := far) (z_queue := que) (z_queued := qud) (z_isOnWay := onw) (z_movePerson := mvp) (z_moveKind := mvk) (z_isFit := isf) (z_standThen := sth) (z_drawX := drx) (z_images := im) (z_imageForce := imF) (z_imageX := imX) (z_isMade := imM) (a1 := (xs (i + 1))) (o_ret := v) (o_said := S) (o_far := far1) (o_queue := fq1) (o_queued := fu1) hm) hnm (by rw [hLm]; exact List.forall_mem_cons.mpr ⟨show 46 < N by omega, fun _ h9 => absurd h9 List.not_mem_nil⟩) (by rw [hLm]; exact List.forall_mem_cons.mpr ⟨kM, fun _ h9 => absurd h9 List.not_mem_nil⟩) (by rw [hLm]; exact List.forall_mem_cons.mpr ⟨rfl, fun _ h9 => absurd h9 List.not_mem_nil⟩) (by rw [hLm]; rfl) (by rw [hLm]; simp only [List.flatMap_cons, List.flatMap_nil, List.append_nil, List.append_assoc]; rw [bm]) (by rw [hLm]; simp only [List.flatMap_cons, List.flatMap_nil, List.append_nil, List.append_assoc]; rw [hum]) (gdV mw_47_23 mw_48_0 mw_48_1 mw_1_5 mw_48_2) rfl rfl hd_f12_moves ⟨Nat.le_of_ble_eq_true rfl, Nat.le_of_ble_eq_true rfl⟩ (ci := 12) (q0 := 0) rfl rfl rfl hl.1 rfl (Nat.le_of_ble_eq_true rfl) dL_law_649 hf9 (fun H locs hP hD hS => ?_)
    obtain ⟨bn, hbn⟩ : ∃ X, X = bsetL bc Lm := ⟨_, rfl⟩
    rw [← hbn] at hP hD
    have tm : bn 46 = um := by rw [hbn]; exact bsetL_at (x := (46, tM (cy 46), bc 46, um)) hnm (by rw [hLm]; exact List.mem_of_getElem? (i := 0) rfl)
    have E2 : ∀ j, j ≠ 46 → bn j = bc j := by
      intro j hj
      rw [hbn]
      exact bsetL_ne (by rw [hLm]; show j ∉ ([46] : List Nat); simp only [List.mem_cons, List.not_mem_nil, or_false]; exact hj)
    have E : ∀ j, (j ≠ 46 ∧ j ≠ 9) → bn j = bs j := fun j hj => (E2 j (by omega)).trans (E1 j (by omega))
    have s4 : bn 9 = u9 := (E2 _ (by omega)).trans t4
    refine lv_icmp_eq (tgt := 1115) hx hb dL_law_652 rfl (fun _ => ?_) (fun c8 => absurd rfl c8)
    refine W.widen (k := cells + 8) (n := slots + 13200) (by omega) (by omega) ?_
    have EL : ∀ j, 47 ≤ j → j < N → bn j = bs j := fun j h1 h2 => E j (by omega)
    exact kk N bn H locs ⟨m, c, nx, tn, R, P, (lh 0), rls, bytes, len, fo, x, notes, nh, nr, nm, hour, broken, rung, grip, want, slips, worn, tape, sign, clause, clauses, S, w, im, imF, imX, imM, hN, (E 0 (by omega)).trans b0, hBT.congr (E 1 (by omega)), (E 2 (by omega)).trans b2, hBRR.congr (E 3 (by omega)), hBN.congr (E 4 (by omega)), (E 5 (by omega)).trans b5, hBH.congr (E 6 (by omega)), hBO.congr (E 7 (by omega)), hB8.congr (E 8 (by omega)), ⟨hp9, yp9, n9, _, _, _, _, _, _, _, _, _, _, _, hn9, (s4.trans hu9), k9⟩, hBS.congr (E 10 (by omega)), hB11.congr (E 11 (by omega)), hSc.congr (Nat.le_refl _) EL, hPs.congr (fun k hk => E _ (by omega)), hIm.congr (Nat.le_refl _) (Nat.le_refl _) (fun k hk => E _ (by omega)) EL, hRu.congr (fun j hj => E _ (by omega)) hm6, ⟨_, _, _, _, _, _, _, _, _, _, _, _, _, _, _, _, _, _, _, _, _, _, _, _, _, _, _, _, tm.trans hum⟩, hTP, hm6, hof, hox⟩ hP hD hS
  · skip
    subst hn0
    obtain ⟨v, z_set, z_from, z_queue, z_tail, z_goal, z_rowLength, z_digit, z_rung, z_crowd, z_above, z_below, far1, fq1, fu1, hc, hm⟩ := r_moves (n := 6561) (pset := ps9) (t0 := pt9) (goal := pg9) (rowl := pl9) (f0 := (fun _ => (0 : Int32))) (q0 := (fun _ => (0 : Int32))) (rung := pr9) (crowd := pc9) (digit := pd9) (above := pa9) (below := pb9) (far := far) (fq := que) (fu := qud) hI hW hL (xs (i + 1)) (Or.inl rfl)
    have hw9 : f10_whoIsLeft rung pe = some (lfF (gR S) P) := by rw [hL.2.1]; exact c_whoLeft hI hW
    have hc9 : ((xs (i + 1)) &&& (lfF (gR S) P ^^^ (-1 : Int32))) = 0 := by
      obtain ⟨-, a9, ha9, ea9, hq9⟩ := hpw
      rw [ea9]
      exact (set_test hI.1.2.1 ha9).mpr hq9
    have hf8 : cells + 2 ≤ room_1.cells ∧ slots + 13122 ≤ room_1.slots := ⟨by show cells + 2 ≤ 600000; omega, by show slots + 13122 ≤ 7302250; omega⟩
    refine lv_aload_n hx hb dL_law_634 rfl (lv_at hl 2 rfl) ?_
    refine ld1 C hS hl hi dL_law_635 dL_law_636 dL_law_637 dL_law_638 dL_law_639 ?_
    obtain ⟨Lo, hLo⟩ : ∃ X : List (Nat × List (ClassId × FieldType) × va_W × va_W), X = [(0, tLL (cy 0), bs 0, bs 0), (4, tSt (cy 4), bs 4, bs 4), (5, tW (cy 5), bs 5, bs 5), (jl, tLd ly, bs jl, bs jl), (9, tPt yp9, bs 9, bs 9)] := ⟨_, rfl⟩
    have hmo : Lo.map Prod.fst = [0, 4, 5, jl, 9] := by rw [hLo]; rfl
    have hno : (Lo.map Prod.fst).Nodup := by rw [hmo]; simp only [List.nodup_cons, List.mem_cons, List.not_mem_nil, or_false, not_or, List.nodup_nil, and_true, not_false_eq_true] <;> omega
    have hlt : ∀ x ∈ Lo, x.1 < N := by rw [hLo]; exact List.forall_mem_cons.mpr ⟨show 0 < N by omega, List.forall_mem_cons.mpr ⟨show 4 < N by omega, List.forall_mem_cons.mpr ⟨show 5 < N by omega, List.forall_mem_cons.mpr ⟨show jl < N by omega, List.forall_mem_cons.mpr ⟨show 9 < N by omega, fun _ h9 => absurd h9 List.not_mem_nil⟩⟩⟩⟩⟩
    have hkL : ∀ x ∈ Lo, va_K D vwCl x.2.1 s := by rw [hLo]; exact List.forall_mem_cons.mpr ⟨kLL, List.forall_mem_cons.mpr ⟨kS4, List.forall_mem_cons.mpr ⟨kW5, List.forall_mem_cons.mpr ⟨kl, List.forall_mem_cons.mpr ⟨k9, fun _ h9 => absurd h9 List.not_mem_nil⟩⟩⟩⟩⟩
    have hbL : ∀ x ∈ Lo, bs x.1 = x.2.2.1 := by rw [hLo]; exact List.forall_mem_cons.mpr ⟨rfl, List.forall_mem_cons.mpr ⟨rfl, List.forall_mem_cons.mpr ⟨rfl, List.forall_mem_cons.mpr ⟨rfl, List.forall_mem_cons.mpr ⟨rfl, fun _ h9 => absurd h9 List.not_mem_nil⟩⟩⟩⟩⟩
    refine mbQ_T (As := [.int (xs (i + 1))]) (rest := []) Lo S9 k0 hP hD hS hA hE9 hV9 (c11_moves_A (l := l) (D := D) (ad_this := (ad 0)) (cy_this := (cy 0)) (z_this_tape := (ad 1 0)) (z_this_ladderReader := (ad 2 0)) (z_this_ruleReader := (ad 3 0)) (z_this_rules := rls) (z_this_ruleCount := (nn m)) (z_this_images := ims) (z_this_past := pst) (z_this_pastNext := (nn nx)) (z_this_pastCount := (nn c)) (z_this_hours := (ad 6 0)) (z_this_outlook := (ad 7 0)) (z_this_siege := (ad 10 0)) (ad_this_now := (ad 4)) (cy_this_now := (cy 4)) (z_this_now_force := fo) (z_this_now_x := x) (z_this_now_notes := notes) (z_this_now_noteHour := nh) (z_this_now_noteRung := nr) (z_this_now_noteMany := nm) (z_this_now_made := md) (ad_this_now_world := (ad 5)) (cy_this_now_world := (cy 5)) (z_this_now_world_hour := hour) (z_this_now_world_broken := broken) (z_this_now_world_rung := rung) (z_this_now_world_grip := grip) (z_this_now_world_want := want) (z_this_now_world_slips := slips) (z_this_now_world_worn := worn) (ad_this_now_world_ladder := lh) (cy_this_now_world_ladder := ly) (z_this_now_world_ladder_rungs := ru) (z_this_now_world_ladder_people := pe) (z_this_now_world_ladder_startBroken := sb) (z_this_now_world_ladder_room := ro) (z_this_now_world_ladder_strength := str) (z_this_now_world_ladder_weight := wt) (z_this_now_world_ladder_told := tol) (z_this_now_world_ladder_startRung := srr) (z_this_now_world_ladder_startWant := sww) (aa_this_paths := (ad 9 0)) (ad_this_paths := hp9) (cy_this_paths := yp9) (z_this_paths_set := ps9) (z_this_paths_from := pf9) (z_this_paths_queue := pq9) (z_this_paths_tail := pt9) (z_this_paths_goal := pg9) (z_this_paths_rowLength := pl9) (z_this_paths_digit := pd9) (z_this_paths_rung := pr9) (z_this_paths_crowd := pc9) (z_this_paths_above := pa9) (z_this_paths_below := pb9) (a1 := (xs (i + 1))) (o_ret := v) (o_this_paths_set := z_set) (o_this_paths_from := z_from) (o_this_paths_queue := z_queue) (o_this_paths_tail := z_tail) (o_this_paths_goal := z_goal) (o_this_paths_rowLength := z_rowLength) (o_this_paths_digit := z_digit) (o_this_paths_rung := z_rung) (o_this_paths_crowd := z_crowd) (o_this_paths_above := z_above) (o_this_paths_below := z_below) (adK := adK) (adV := adV) (r_0 := (lfF (gR S) P)) hw9 hc9 hc) hno hlt hkL hbL (by rw [hLo]; rfl) (by rw [hLo]; simp only [List.flatMap_cons, List.flatMap_nil, List.append_nil, List.append_assoc]; rw [b0, b4, b5, bl, b9]) (gdV mw_45_9 mw_45_10 mw_45_11 mw_1_2 mw_45_12) rfl rfl hd_f11_moves ⟨Nat.le_of_ble_eq_true rfl, Nat.le_of_ble_eq_true rfl⟩ (ci := 11) (q0 := 0) rfl rfl rfl hl.1 rfl (Nat.le_of_ble_eq_true rfl) dL_law_640 ⟨by show cells + 2 ≤ 600000; omega, by show slots + 13122 ≤ 7302250; omega⟩ (fun wz tz rz H locs hZ hKz hcv hS => ?_)
    obtain ⟨zh, zy, zn, zs, zf, zq, zt, zg, zl, zd, zr, zc, za, zb, hzn, rfl, rfl, rfl⟩ := hZ
    obtain ⟨u9, hu9⟩ : ∃ X : va_W, X = cPt (ad 9 0) zh zy ((ad 5) 0) zs zn zf zn zq zt zg zl zd zr zc za zb := ⟨_, rfl⟩
    obtain ⟨Lc, hLc⟩ : ∃ X : List (Nat × List (ClassId × FieldType) × va_W × va_W), X = [(0, tLL (cy 0), bs 0, bs 0), (4, tSt (cy 4), bs 4, bs 4), (5, tW (cy 5), bs 5, bs 5), (jl, tLd ly, bs jl, bs jl), (9, tPt yp9, bs 9, u9)] := ⟨_, rfl⟩
    have hmc : Lc.map Prod.fst = [0, 4, 5, jl, 9] := by rw [hLc]; rfl
    have hnd : (Lc.map Prod.fst).Nodup := by rw [hmc, ← hmo]; exact hno
    obtain ⟨bc, hbc⟩ : ∃ X, X = bsetL bs Lc := ⟨_, rfl⟩
    have t0 : bc 0 = bs 0 := by rw [hbc]; exact bsetL_at (x := (0, tLL (cy 0), bs 0, bs 0)) hnd (by rw [hLc]; exact List.mem_of_getElem? (i := 0) rfl)
    have t1 : bc 4 = bs 4 := by rw [hbc]; exact bsetL_at (x := (4, tSt (cy 4), bs 4, bs 4)) hnd (by rw [hLc]; exact List.mem_of_getElem? (i := 1) rfl)
    have t2 : bc 5 = bs 5 := by rw [hbc]; exact bsetL_at (x := (5, tW (cy 5), bs 5, bs 5)) hnd (by rw [hLc]; exact List.mem_of_getElem? (i := 2) rfl)
    have t3 : bc jl = bs jl := by rw [hbc]; exact bsetL_at (x := (jl, tLd ly, bs jl, bs jl)) hnd (by rw [hLc]; exact List.mem_of_getElem? (i := 3) rfl)
    have t4 : bc 9 = u9 := by rw [hbc]; exact bsetL_at (x := (9, tPt yp9, bs 9, u9)) hnd (by rw [hLc]; exact List.mem_of_getElem? (i := 4) rfl)
    have E1 : ∀ j, (j ≠ 9) → bc j = bs j := by
      intro j hj
      by_cases q0 : j = 0
      · rw [q0]; exact t0
      by_cases q1 : j = 4
      · rw [q1]; exact t1
      by_cases q2 : j = 5
      · rw [q2]; exact t2
      by_cases q3 : j = jl
      · rw [q3]; exact t3
      rw [hbc]
      exact bsetL_ne (by rw [hmc]; simp only [List.mem_cons, List.not_mem_nil, or_false, not_or]; omega)
    obtain ⟨hP, hD⟩ := hcv bc ([]) (fun j h8 h9 => by rw [hbc]; exact bsetL_ne (by rw [hmc, ← hmo]; exact h9)) (by rw [hmo]; simp only [List.flatMap_cons, List.flatMap_nil, List.append_nil, List.append_assoc, t0, t1, t2, t3, t4]; rw [b0, b4, b5, bl, hu9])
    rw [List.append_nil] at hP hD
    refine lv_aload_n hx hb dL_law_643 rfl (lv_at hl 1 rfl) ?_
    refine ld1 C hS hl hi dL_law_644 dL_law_645 dL_law_646 dL_law_647 dL_law_648 ?_
    obtain ⟨um, hum⟩ : ∃ X : va_W, X = (cM (ad 46) (cy 46) tape len (nn m) sign lg clause clauses rd nxt wrg num txt mde dep lns opn opd stk tp wd S fo x wil mov brk w (nn c) kpt bhr far1 fq1 fu1 onw mvp mvk isf sth drx im imF imX imM) := ⟨_, rfl⟩
    have bm : bc 46 = _ := (E1 46 (by omega)).trans b46
    obtain ⟨Lm, hLm⟩ : ∃ X : List (Nat × List (ClassId × FieldType) × va_W × va_W), X = [(46, tM (cy 46), bc 46, um)] := ⟨_, rfl⟩
    have hnm : (Lm.map Prod.fst).Nodup := by rw [hLm]; show ([46] : List Nat).Nodup; decide
    refine mbQ_i (As := [.int (xs (i + 1))]) (rest := [.int rz]) Lm S9 k0 hP hD hS hA (c12_moves (l := l) (D := D) (ad := (ad 46)) (cy := (cy 46)) (z_tape := tape) (z_taped := len) (z_rules := (nn m)) (z_sign := sign) (z_length := lg) (z_clause := clause) (z_clauses := clauses) (z_read := rd) (z_next := nxt) (z_wrong := wrg) (z_number := num) (z_text := txt) (z_made := mde) (z_deep := dep) (z_lines := lns) (z_open := opn) (z_opened := opd) (z_stack := stk) (z_top := tp) (z_word := wd) (z_said := S) (z_force := fo) (z_x := x) (z_will := wil) (z_moved := mov) (z_broke := brk) (z_wasSaid := w) (z_undone := (nn c)) (z_kept := kpt) (z_breakHour := bhr) (z_far := far) (z_queue := que) (z_queued := qud) (z_isOnWay := onw) (z_movePerson := mvp) (z_moveKind := mvk) (z_isFit := isf) (z_standThen := sth) (z_drawX := drx) (z_images := im) (z_imageForce := imF) (z_imageX := imX) (z_isMade := imM) (a1 := (xs (i + 1))) (o_ret := rz) (o_said := S) (o_far := far1) (o_queue := fq1) (o_queued := fu1) hm) hnm (by rw [hLm]; exact List.forall_mem_cons.mpr ⟨show 46 < N by omega, fun _ h9 => absurd h9 List.not_mem_nil⟩) (by rw [hLm]; exact List.forall_mem_cons.mpr ⟨kM, fun _ h9 => absurd h9 List.not_mem_nil⟩) (by rw [hLm]; exact List.forall_mem_cons.mpr ⟨rfl, fun _ h9 => absurd h9 List.not_mem_nil⟩) (by rw [hLm]; rfl) (by rw [hLm]; simp only [List.flatMap_cons, List.flatMap_nil, List.append_nil, List.append_assoc]; rw [bm]) (by rw [hLm]; simp only [List.flatMap_cons, List.flatMap_nil, List.append_nil, List.append_assoc]; rw [hum]) (gdV mw_47_23 mw_48_0 mw_48_1 mw_1_5 mw_48_2) rfl rfl hd_f12_moves ⟨Nat.le_of_ble_eq_true rfl, Nat.le_of_ble_eq_true rfl⟩ (ci := 12) (q0 := 0) rfl rfl rfl hl.1 rfl (Nat.le_of_ble_eq_true rfl) dL_law_649 hf8 (fun H locs hP hD hS => ?_)
    obtain ⟨bn, hbn⟩ : ∃ X, X = bsetL bc Lm := ⟨_, rfl⟩
    rw [← hbn] at hP hD
    have tm : bn 46 = um := by rw [hbn]; exact bsetL_at (x := (46, tM (cy 46), bc 46, um)) hnm (by rw [hLm]; exact List.mem_of_getElem? (i := 0) rfl)
    have E2 : ∀ j, j ≠ 46 → bn j = bc j := by
      intro j hj
      rw [hbn]
      exact bsetL_ne (by rw [hLm]; show j ∉ ([46] : List Nat); simp only [List.mem_cons, List.not_mem_nil, or_false]; exact hj)
    have E : ∀ j, (j ≠ 46 ∧ j ≠ 9) → bn j = bs j := fun j hj => (E2 j (by omega)).trans (E1 j (by omega))
    have s4 : bn 9 = u9 := (E2 _ (by omega)).trans t4
    refine lv_icmp_eq (tgt := 1115) hx hb dL_law_652 rfl (fun _ => ?_) (fun c8 => absurd rfl c8)
    refine W.widen (k := cells + 8) (n := slots + 13200) (by omega) (by omega) ?_
    have EL : ∀ j, 47 ≤ j → j < N → bn j = bs j := fun j h1 h2 => E j (by omega)
    exact kk N bn H locs ⟨m, c, nx, tn, R, P, (lh 0), rls, bytes, len, fo, x, notes, nh, nr, nm, hour, broken, rung, grip, want, slips, worn, tape, sign, clause, clauses, S, w, im, imF, imX, imM, hN, (E 0 (by omega)).trans b0, hBT.congr (E 1 (by omega)), (E 2 (by omega)).trans b2, hBRR.congr (E 3 (by omega)), hBN.congr (E 4 (by omega)), (E 5 (by omega)).trans b5, hBH.congr (E 6 (by omega)), hBO.congr (E 7 (by omega)), hB8.congr (E 8 (by omega)), ⟨zh, zy, zn, _, _, _, _, _, _, _, _, _, _, _, hzn, (s4.trans hu9), hKz.sub [17, 18, 19, 20, 21, 22, 23] rfl⟩, hBS.congr (E 10 (by omega)), hB11.congr (E 11 (by omega)), hSc.congr (Nat.le_refl _) EL, hPs.congr (fun k hk => E _ (by omega)), hIm.congr (Nat.le_refl _) (Nat.le_refl _) (fun k hk => E _ (by omega)) EL, hRu.congr (fun j hj => E _ (by omega)) hm6, ⟨_, _, _, _, _, _, _, _, _, _, _, _, _, _, _, _, _, _, _, _, _, _, _, _, _, _, _, _, tm.trans hum⟩, hTP, hm6, hof, hox⟩ hP hD hS

set_option maxHeartbeats 8000000 in
set_option maxRecDepth 100000 in
theorem k_move (C : Cx p m9 c9 s A D adK adV ad cy ims pst b L xs) (hi : i + 6 ≤ L) (T : Top D s ad cy ims pst N bs) (hP : va_P D vwCl (bW N bs) H) (hD : va_D A (bW N bs)) (hS : va_S A s.heap H locs) (hl : lv_has ls 4 (lvL ad b i)) (hf : cells + 8 ≤ 600000 ∧ slots + 13200 ≤ 7302250)
    (kk : ∀ (N : Nat) (bs : Nat → va_W) (H : Heap) (locs : List Loc), Top D s ad cy ims pst N bs → va_P D vwCl (bW N bs) H → va_D A (bW N bs) → va_S A s.heap H locs → W p l e room_1 s m9 #[.ref b] below meth c9 H locs (cells + 8) (slots + 13200) Q (F0 m9 1115 ls [])) : W p l e room_1 s m9 #[.ref b] below meth c9 H locs cells slots Q (F0 m9 657 ls []) := by
  obtain ⟨m, c, nx, tn, R, P, A0, rls, bytes, len, fo, x, notes, nh, nr, nm, hour, broken, rung, grip, want, slips, worn, tape, sign, clause, clauses, S, w, im, imF, imX, imM, hN, b0, hBT, b2, hBRR, hBN, b5, hBH, hBO, hB8, hBP, hBS, hB11, hSc, hPs, hIm, hRu, hBM, hTP, hm6, hof, hox⟩ := T
  obtain ⟨S9, hA, hbA, hbl, hX, hL9, hF, hE9, hV9⟩ := id C
  obtain ⟨hx, hb, hml, hown, hts⟩ := id S9
  obtain ⟨k0, kLL, kTp, kRR, kS4, kW5, kH, kO, kW8, kW11, kM, kIm, kPs⟩ := id hF
  have hf9 : cells ≤ room_1.cells ∧ slots ≤ room_1.slots := ⟨Nat.le_trans (Nat.le_add_right _ _) hf.1, Nat.le_trans (Nat.le_add_right _ _) hf.2⟩
  obtain ⟨lg, rd, nxt, wrg, num, txt, mde, dep, lns, opn, opd, stk, tp, wd, wil, mov, brk, kpt, bhr, far, que, qud, onw, mvp, mvk, isf, sth, drx, b46⟩ := id hBM
  obtain ⟨jl, lh, ly, ru, pe, sb, ro, str, wt, tol, srr, sww, g1, g2, g3, bl, kl, hI, hW, hL, hWT, hBg, hhr, hNo⟩ := id hSc
  subst g3
  obtain ⟨md, b4⟩ := id hBN
  obtain ⟨hp9, yp9, n9, ps9, pf9, pq9, pt9, pg9, pl9, pd9, pr9, pc9, pa9, pb9, hn9, b9, k9⟩ := id hBP
  have hcase : (n9 = 6561 ∨ ¬ PW R P S (xs (i + 1))) ∨ (n9 = 0 ∧ PW R P S (xs (i + 1))) := by
    rcases hn9 with h | h
    · by_cases q : PW R P S (xs (i + 1))
      · exact Or.inr ⟨h, q⟩
      · exact Or.inl (Or.inr q)
    · exact Or.inl (Or.inl h)
  rcases hcase with hnp | ⟨hn0, hpw⟩
  · skip
    obtain ⟨v, z_set, z_from, z_queue, z_tail, z_goal, z_rowLength, z_digit, z_rung, z_crowd, z_above, z_below, far1, fq1, fu1, ow1, mp1, mk1, hc, hm⟩ := r_move (n := n9) (pset := ps9) (t0 := pt9) (goal := pg9) (rowl := pl9) (f0 := pf9) (q0 := pq9) (rung := pr9) (crowd := pc9) (digit := pd9) (above := pa9) (below := pb9) (far := far) (fq := que) (fu := qud) (ow := onw) (mp := mvp) (mk := mvk) hI hW hL (xs (i + 1)) (xs (i + 2)) (xs (i + 3)) hnp
    refine lv_aload_n hx hb dL_law_657 rfl (lv_at hl 2 rfl) ?_
    refine ld1 C hS hl hi dL_law_658 dL_law_659 dL_law_660 dL_law_661 dL_law_662 ?_
    refine ld2 C hS hl hi dL_law_663 dL_law_664 dL_law_665 dL_law_666 dL_law_667 ?_
    refine ld3 C hS hl hi dL_law_668 dL_law_669 dL_law_670 dL_law_671 dL_law_672 ?_
    obtain ⟨u9, hu9⟩ : ∃ X : va_W, X = cPt (ad 9 0) hp9 yp9 ((ad 5) 0) z_set n9 z_from n9 z_queue z_tail z_goal z_rowLength z_digit z_rung z_crowd z_above z_below := ⟨_, rfl⟩
    obtain ⟨Lc, hLc⟩ : ∃ X : List (Nat × List (ClassId × FieldType) × va_W × va_W), X = [(0, tLL (cy 0), bs 0, bs 0), (4, tSt (cy 4), bs 4, bs 4), (5, tW (cy 5), bs 5, bs 5), (jl, tLd ly, bs jl, bs jl), (9, tPt yp9, bs 9, u9)] := ⟨_, rfl⟩
    have hnd : (Lc.map Prod.fst).Nodup := by rw [hLc]; show ([0, 4, 5, jl, 9] : List Nat).Nodup; simp only [List.nodup_cons, List.mem_cons, List.not_mem_nil, or_false, not_or, List.nodup_nil, and_true, not_false_eq_true] <;> omega
    have hlt : ∀ x ∈ Lc, x.1 < N := by rw [hLc]; exact List.forall_mem_cons.mpr ⟨show 0 < N by omega, List.forall_mem_cons.mpr ⟨show 4 < N by omega, List.forall_mem_cons.mpr ⟨show 5 < N by omega, List.forall_mem_cons.mpr ⟨show jl < N by omega, List.forall_mem_cons.mpr ⟨show 9 < N by omega, fun _ h9 => absurd h9 List.not_mem_nil⟩⟩⟩⟩⟩
    have hkL : ∀ x ∈ Lc, va_K D vwCl x.2.1 s := by rw [hLc]; exact List.forall_mem_cons.mpr ⟨kLL, List.forall_mem_cons.mpr ⟨kS4, List.forall_mem_cons.mpr ⟨kW5, List.forall_mem_cons.mpr ⟨kl, List.forall_mem_cons.mpr ⟨k9, fun _ h9 => absurd h9 List.not_mem_nil⟩⟩⟩⟩⟩
    have hbL : ∀ x ∈ Lc, bs x.1 = x.2.2.1 := by rw [hLc]; exact List.forall_mem_cons.mpr ⟨rfl, List.forall_mem_cons.mpr ⟨rfl, List.forall_mem_cons.mpr ⟨rfl, List.forall_mem_cons.mpr ⟨rfl, List.forall_mem_cons.mpr ⟨rfl, fun _ h9 => absurd h9 List.not_mem_nil⟩⟩⟩⟩⟩
    refine mbQ_i (As := [.int (xs (i + 1)), .int (xs (i + 2)), .int (xs (i + 3))]) (rest := []) Lc S9 k0 hP hD hS hA (c11_move_a (l := l) (D := D) (ad_this := (ad 0)) (cy_this := (cy 0)) (z_this_tape := (ad 1 0)) (z_this_ladderReader := (ad 2 0)) (z_this_ruleReader := (ad 3 0)) (z_this_rules := rls) (z_this_ruleCount := (nn m)) (z_this_images := ims) (z_this_past := pst) (z_this_pastNext := (nn nx)) (z_this_pastCount := (nn c)) (z_this_hours := (ad 6 0)) (z_this_outlook := (ad 7 0)) (z_this_siege := (ad 10 0)) (ad_this_now := (ad 4)) (cy_this_now := (cy 4)) (z_this_now_force := fo) (z_this_now_x := x) (z_this_now_notes := notes) (z_this_now_noteHour := nh) (z_this_now_noteRung := nr) (z_this_now_noteMany := nm) (z_this_now_made := md) (ad_this_now_world := (ad 5)) (cy_this_now_world := (cy 5)) (z_this_now_world_hour := hour) (z_this_now_world_broken := broken) (z_this_now_world_rung := rung) (z_this_now_world_grip := grip) (z_this_now_world_want := want) (z_this_now_world_slips := slips) (z_this_now_world_worn := worn) (ad_this_now_world_ladder := lh) (cy_this_now_world_ladder := ly) (z_this_now_world_ladder_rungs := ru) (z_this_now_world_ladder_people := pe) (z_this_now_world_ladder_startBroken := sb) (z_this_now_world_ladder_room := ro) (z_this_now_world_ladder_strength := str) (z_this_now_world_ladder_weight := wt) (z_this_now_world_ladder_told := tol) (z_this_now_world_ladder_startRung := srr) (z_this_now_world_ladder_startWant := sww) (aa_this_paths := (ad 9 0)) (ad_this_paths := hp9) (cy_this_paths := yp9) (z_this_paths_set := ps9) (n_this_paths_from := n9) (z_this_paths_from := pf9) (n_this_paths_queue := n9) (z_this_paths_queue := pq9) (z_this_paths_tail := pt9) (z_this_paths_goal := pg9) (z_this_paths_rowLength := pl9) (z_this_paths_digit := pd9) (z_this_paths_rung := pr9) (z_this_paths_crowd := pc9) (z_this_paths_above := pa9) (z_this_paths_below := pb9) (a1 := (xs (i + 1))) (a2 := (xs (i + 2))) (a3 := (xs (i + 3))) (o_ret := v) (o_this_paths_set := z_set) (o_this_paths_from := z_from) (o_this_paths_queue := z_queue) (o_this_paths_tail := z_tail) (o_this_paths_goal := z_goal) (o_this_paths_rowLength := z_rowLength) (o_this_paths_digit := z_digit) (o_this_paths_rung := z_rung) (o_this_paths_crowd := z_crowd) (o_this_paths_above := z_above) (o_this_paths_below := z_below) hc) hnd hlt hkL hbL (by rw [hLc]; rfl) (by rw [hLc]; simp only [List.flatMap_cons, List.flatMap_nil, List.append_nil, List.append_assoc]; rw [b0, b4, b5, bl, b9]) (by rw [hLc]; simp only [List.flatMap_cons, List.flatMap_nil, List.append_nil, List.append_assoc]; rw [b0, b4, b5, bl, hu9]) (gdV mw_50_3 mw_50_4 mw_50_5 mw_1_2 mw_50_6) rfl rfl hd_f11_move ⟨Nat.le_of_ble_eq_true rfl, Nat.le_of_ble_eq_true rfl⟩ (ci := 11) (q0 := 0) rfl rfl rfl hl.1 rfl (Nat.le_of_ble_eq_true rfl) dL_law_673 hf9 (fun H locs hP hD hS => ?_)
    obtain ⟨bc, hbc⟩ : ∃ X, X = bsetL bs Lc := ⟨_, rfl⟩
    rw [← hbc] at hP hD
    have t0 : bc 0 = bs 0 := by rw [hbc]; exact bsetL_at (x := (0, tLL (cy 0), bs 0, bs 0)) hnd (by rw [hLc]; exact List.mem_of_getElem? (i := 0) rfl)
    have t1 : bc 4 = bs 4 := by rw [hbc]; exact bsetL_at (x := (4, tSt (cy 4), bs 4, bs 4)) hnd (by rw [hLc]; exact List.mem_of_getElem? (i := 1) rfl)
    have t2 : bc 5 = bs 5 := by rw [hbc]; exact bsetL_at (x := (5, tW (cy 5), bs 5, bs 5)) hnd (by rw [hLc]; exact List.mem_of_getElem? (i := 2) rfl)
    have t3 : bc jl = bs jl := by rw [hbc]; exact bsetL_at (x := (jl, tLd ly, bs jl, bs jl)) hnd (by rw [hLc]; exact List.mem_of_getElem? (i := 3) rfl)
    have t4 : bc 9 = u9 := by rw [hbc]; exact bsetL_at (x := (9, tPt yp9, bs 9, u9)) hnd (by rw [hLc]; exact List.mem_of_getElem? (i := 4) rfl)
    have E1 : ∀ j, (j ≠ 9) → bc j = bs j := by
      intro j hj
      by_cases q0 : j = 0
      · rw [q0]; exact t0
      by_cases q1 : j = 4
      · rw [q1]; exact t1
      by_cases q2 : j = 5
      · rw [q2]; exact t2
      by_cases q3 : j = jl
      · rw [q3]; exact t3
      rw [hbc]
      exact bsetL_ne (by rw [hLc]; show j ∉ ([0, 4, 5, jl, 9] : List Nat); simp only [List.mem_cons, List.not_mem_nil, or_false, not_or]; omega)
    refine lv_aload_n hx hb dL_law_676 rfl (lv_at hl 1 rfl) ?_
    refine ld1 C hS hl hi dL_law_677 dL_law_678 dL_law_679 dL_law_680 dL_law_681 ?_
    refine ld2 C hS hl hi dL_law_682 dL_law_683 dL_law_684 dL_law_685 dL_law_686 ?_
    refine ld3 C hS hl hi dL_law_687 dL_law_688 dL_law_689 dL_law_690 dL_law_691 ?_
    obtain ⟨um, hum⟩ : ∃ X : va_W, X = (cM (ad 46) (cy 46) tape len (nn m) sign lg clause clauses rd nxt wrg num txt mde dep lns opn opd stk tp wd S fo x wil mov brk w (nn c) kpt bhr far1 fq1 fu1 ow1 mp1 mk1 isf sth drx im imF imX imM) := ⟨_, rfl⟩
    have bm : bc 46 = _ := (E1 46 (by omega)).trans b46
    obtain ⟨Lm, hLm⟩ : ∃ X : List (Nat × List (ClassId × FieldType) × va_W × va_W), X = [(46, tM (cy 46), bc 46, um)] := ⟨_, rfl⟩
    have hnm : (Lm.map Prod.fst).Nodup := by rw [hLm]; show ([46] : List Nat).Nodup; decide
    refine mbQ_i (As := [.int (xs (i + 1)), .int (xs (i + 2)), .int (xs (i + 3))]) (rest := [.int v]) Lm S9 k0 hP hD hS hA (c12_move (l := l) (D := D) (ad := (ad 46)) (cy := (cy 46)) (z_tape := tape) (z_taped := len) (z_rules := (nn m)) (z_sign := sign) (z_length := lg) (z_clause := clause) (z_clauses := clauses) (z_read := rd) (z_next := nxt) (z_wrong := wrg) (z_number := num) (z_text := txt) (z_made := mde) (z_deep := dep) (z_lines := lns) (z_open := opn) (z_opened := opd) (z_stack := stk) (z_top := tp) (z_word := wd) (z_said := S) (z_force := fo) (z_x := x) (z_will := wil) (z_moved := mov) (z_broke := brk) (z_wasSaid := w) (z_undone := (nn c)) (z_kept := kpt) (z_breakHour := bhr) (z_far := far) (z_queue := que) (z_queued := qud) (z_isOnWay := onw) (z_movePerson := mvp) (z_moveKind := mvk) (z_isFit := isf) (z_standThen := sth) (z_drawX := drx) (z_images := im) (z_imageForce := imF) (z_imageX := imX) (z_isMade := imM) (a1 := (xs (i + 1))) (a2 := (xs (i + 2))) (a3 := (xs (i + 3))) (o_ret := v) (o_said := S) (o_far := far1) (o_queue := fq1) (o_queued := fu1) (o_isOnWay := ow1) (o_movePerson := mp1) (o_moveKind := mk1) hm) hnm (by rw [hLm]; exact List.forall_mem_cons.mpr ⟨show 46 < N by omega, fun _ h9 => absurd h9 List.not_mem_nil⟩) (by rw [hLm]; exact List.forall_mem_cons.mpr ⟨kM, fun _ h9 => absurd h9 List.not_mem_nil⟩) (by rw [hLm]; exact List.forall_mem_cons.mpr ⟨rfl, fun _ h9 => absurd h9 List.not_mem_nil⟩) (by rw [hLm]; rfl) (by rw [hLm]; simp only [List.flatMap_cons, List.flatMap_nil, List.append_nil, List.append_assoc]; rw [bm]) (by rw [hLm]; simp only [List.flatMap_cons, List.flatMap_nil, List.append_nil, List.append_assoc]; rw [hum]) (gdV mw_50_12 mw_50_13 mw_50_14 mw_1_5 mw_50_15) rfl rfl hd_f12_move ⟨Nat.le_of_ble_eq_true rfl, Nat.le_of_ble_eq_true rfl⟩ (ci := 12) (q0 := 0) rfl rfl rfl hl.1 rfl (Nat.le_of_ble_eq_true rfl) dL_law_692 hf9 (fun H locs hP hD hS => ?_)
    obtain ⟨bn, hbn⟩ : ∃ X, X = bsetL bc Lm := ⟨_, rfl⟩
    rw [← hbn] at hP hD
    have tm : bn 46 = um := by rw [hbn]; exact bsetL_at (x := (46, tM (cy 46), bc 46, um)) hnm (by rw [hLm]; exact List.mem_of_getElem? (i := 0) rfl)
    have E2 : ∀ j, j ≠ 46 → bn j = bc j := by
      intro j hj
      rw [hbn]
      exact bsetL_ne (by rw [hLm]; show j ∉ ([46] : List Nat); simp only [List.mem_cons, List.not_mem_nil, or_false]; exact hj)
    have E : ∀ j, (j ≠ 46 ∧ j ≠ 9) → bn j = bs j := fun j hj => (E2 j (by omega)).trans (E1 j (by omega))
    have s4 : bn 9 = u9 := (E2 _ (by omega)).trans t4
    refine lv_icmp_eq (tgt := 1115) hx hb dL_law_695 rfl (fun _ => ?_) (fun c8 => absurd rfl c8)
    refine W.widen (k := cells + 8) (n := slots + 13200) (by omega) (by omega) ?_
    have EL : ∀ j, 47 ≤ j → j < N → bn j = bs j := fun j h1 h2 => E j (by omega)
    exact kk N bn H locs ⟨m, c, nx, tn, R, P, (lh 0), rls, bytes, len, fo, x, notes, nh, nr, nm, hour, broken, rung, grip, want, slips, worn, tape, sign, clause, clauses, S, w, im, imF, imX, imM, hN, (E 0 (by omega)).trans b0, hBT.congr (E 1 (by omega)), (E 2 (by omega)).trans b2, hBRR.congr (E 3 (by omega)), hBN.congr (E 4 (by omega)), (E 5 (by omega)).trans b5, hBH.congr (E 6 (by omega)), hBO.congr (E 7 (by omega)), hB8.congr (E 8 (by omega)), ⟨hp9, yp9, n9, _, _, _, _, _, _, _, _, _, _, _, hn9, (s4.trans hu9), k9⟩, hBS.congr (E 10 (by omega)), hB11.congr (E 11 (by omega)), hSc.congr (Nat.le_refl _) EL, hPs.congr (fun k hk => E _ (by omega)), hIm.congr (Nat.le_refl _) (Nat.le_refl _) (fun k hk => E _ (by omega)) EL, hRu.congr (fun j hj => E _ (by omega)) hm6, ⟨_, _, _, _, _, _, _, _, _, _, _, _, _, _, _, _, _, _, _, _, _, _, _, _, _, _, _, _, tm.trans hum⟩, hTP, hm6, hof, hox⟩ hP hD hS
  · skip
    subst hn0
    obtain ⟨v, z_set, z_from, z_queue, z_tail, z_goal, z_rowLength, z_digit, z_rung, z_crowd, z_above, z_below, far1, fq1, fu1, ow1, mp1, mk1, hc, hm⟩ := r_move (n := 6561) (pset := ps9) (t0 := pt9) (goal := pg9) (rowl := pl9) (f0 := (fun _ => (0 : Int32))) (q0 := (fun _ => (0 : Int32))) (rung := pr9) (crowd := pc9) (digit := pd9) (above := pa9) (below := pb9) (far := far) (fq := que) (fu := qud) (ow := onw) (mp := mvp) (mk := mvk) hI hW hL (xs (i + 1)) (xs (i + 2)) (xs (i + 3)) (Or.inl rfl)
    have hw9 : f10_whoIsLeft rung pe = some (lfF (gR S) P) := by rw [hL.2.1]; exact c_whoLeft hI hW
    have hc9 : ((xs (i + 1)) &&& (lfF (gR S) P ^^^ (-1 : Int32))) = 0 := by
      obtain ⟨-, a9, ha9, ea9, hq9⟩ := hpw
      rw [ea9]
      exact (set_test hI.1.2.1 ha9).mpr hq9
    have hf8 : cells + 2 ≤ room_1.cells ∧ slots + 13122 ≤ room_1.slots := ⟨by show cells + 2 ≤ 600000; omega, by show slots + 13122 ≤ 7302250; omega⟩
    refine lv_aload_n hx hb dL_law_657 rfl (lv_at hl 2 rfl) ?_
    refine ld1 C hS hl hi dL_law_658 dL_law_659 dL_law_660 dL_law_661 dL_law_662 ?_
    refine ld2 C hS hl hi dL_law_663 dL_law_664 dL_law_665 dL_law_666 dL_law_667 ?_
    refine ld3 C hS hl hi dL_law_668 dL_law_669 dL_law_670 dL_law_671 dL_law_672 ?_
    obtain ⟨Lo, hLo⟩ : ∃ X : List (Nat × List (ClassId × FieldType) × va_W × va_W), X = [(0, tLL (cy 0), bs 0, bs 0), (4, tSt (cy 4), bs 4, bs 4), (5, tW (cy 5), bs 5, bs 5), (jl, tLd ly, bs jl, bs jl), (9, tPt yp9, bs 9, bs 9)] := ⟨_, rfl⟩
    have hmo : Lo.map Prod.fst = [0, 4, 5, jl, 9] := by rw [hLo]; rfl
    have hno : (Lo.map Prod.fst).Nodup := by rw [hmo]; simp only [List.nodup_cons, List.mem_cons, List.not_mem_nil, or_false, not_or, List.nodup_nil, and_true, not_false_eq_true] <;> omega
    have hlt : ∀ x ∈ Lo, x.1 < N := by rw [hLo]; exact List.forall_mem_cons.mpr ⟨show 0 < N by omega, List.forall_mem_cons.mpr ⟨show 4 < N by omega, List.forall_mem_cons.mpr ⟨show 5 < N by omega, List.forall_mem_cons.mpr ⟨show jl < N by omega, List.forall_mem_cons.mpr ⟨show 9 < N by omega, fun _ h9 => absurd h9 List.not_mem_nil⟩⟩⟩⟩⟩
    have hkL : ∀ x ∈ Lo, va_K D vwCl x.2.1 s := by rw [hLo]; exact List.forall_mem_cons.mpr ⟨kLL, List.forall_mem_cons.mpr ⟨kS4, List.forall_mem_cons.mpr ⟨kW5, List.forall_mem_cons.mpr ⟨kl, List.forall_mem_cons.mpr ⟨k9, fun _ h9 => absurd h9 List.not_mem_nil⟩⟩⟩⟩⟩
    have hbL : ∀ x ∈ Lo, bs x.1 = x.2.2.1 := by rw [hLo]; exact List.forall_mem_cons.mpr ⟨rfl, List.forall_mem_cons.mpr ⟨rfl, List.forall_mem_cons.mpr ⟨rfl, List.forall_mem_cons.mpr ⟨rfl, List.forall_mem_cons.mpr ⟨rfl, fun _ h9 => absurd h9 List.not_mem_nil⟩⟩⟩⟩⟩
    refine mbQ_T (As := [.int (xs (i + 1)), .int (xs (i + 2)), .int (xs (i + 3))]) (rest := []) Lo S9 k0 hP hD hS hA hE9 hV9 (c11_move_A (l := l) (D := D) (ad_this := (ad 0)) (cy_this := (cy 0)) (z_this_tape := (ad 1 0)) (z_this_ladderReader := (ad 2 0)) (z_this_ruleReader := (ad 3 0)) (z_this_rules := rls) (z_this_ruleCount := (nn m)) (z_this_images := ims) (z_this_past := pst) (z_this_pastNext := (nn nx)) (z_this_pastCount := (nn c)) (z_this_hours := (ad 6 0)) (z_this_outlook := (ad 7 0)) (z_this_siege := (ad 10 0)) (ad_this_now := (ad 4)) (cy_this_now := (cy 4)) (z_this_now_force := fo) (z_this_now_x := x) (z_this_now_notes := notes) (z_this_now_noteHour := nh) (z_this_now_noteRung := nr) (z_this_now_noteMany := nm) (z_this_now_made := md) (ad_this_now_world := (ad 5)) (cy_this_now_world := (cy 5)) (z_this_now_world_hour := hour) (z_this_now_world_broken := broken) (z_this_now_world_rung := rung) (z_this_now_world_grip := grip) (z_this_now_world_want := want) (z_this_now_world_slips := slips) (z_this_now_world_worn := worn) (ad_this_now_world_ladder := lh) (cy_this_now_world_ladder := ly) (z_this_now_world_ladder_rungs := ru) (z_this_now_world_ladder_people := pe) (z_this_now_world_ladder_startBroken := sb) (z_this_now_world_ladder_room := ro) (z_this_now_world_ladder_strength := str) (z_this_now_world_ladder_weight := wt) (z_this_now_world_ladder_told := tol) (z_this_now_world_ladder_startRung := srr) (z_this_now_world_ladder_startWant := sww) (aa_this_paths := (ad 9 0)) (ad_this_paths := hp9) (cy_this_paths := yp9) (z_this_paths_set := ps9) (z_this_paths_from := pf9) (z_this_paths_queue := pq9) (z_this_paths_tail := pt9) (z_this_paths_goal := pg9) (z_this_paths_rowLength := pl9) (z_this_paths_digit := pd9) (z_this_paths_rung := pr9) (z_this_paths_crowd := pc9) (z_this_paths_above := pa9) (z_this_paths_below := pb9) (a1 := (xs (i + 1))) (a2 := (xs (i + 2))) (a3 := (xs (i + 3))) (o_ret := v) (o_this_paths_set := z_set) (o_this_paths_from := z_from) (o_this_paths_queue := z_queue) (o_this_paths_tail := z_tail) (o_this_paths_goal := z_goal) (o_this_paths_rowLength := z_rowLength) (o_this_paths_digit := z_digit) (o_this_paths_rung := z_rung) (o_this_paths_crowd := z_crowd) (o_this_paths_above := z_above) (o_this_paths_below := z_below) (adK := adK) (adV := adV) (r_0 := (lfF (gR S) P)) hw9 hc9 hc) hno hlt hkL hbL (by rw [hLo]; rfl) (by rw [hLo]; simp only [List.flatMap_cons, List.flatMap_nil, List.append_nil, List.append_assoc]; rw [b0, b4, b5, bl, b9]) (gdV mw_50_3 mw_50_4 mw_50_5 mw_1_2 mw_50_6) rfl rfl hd_f11_move ⟨Nat.le_of_ble_eq_true rfl, Nat.le_of_ble_eq_true rfl⟩ (ci := 11) (q0 := 0) rfl rfl rfl hl.1 rfl (Nat.le_of_ble_eq_true rfl) dL_law_673 ⟨by show cells + 2 ≤ 600000; omega, by show slots + 13122 ≤ 7302250; omega⟩ (fun wz tz rz H locs hZ hKz hcv hS => ?_)
    obtain ⟨zh, zy, zn, zs, zf, zq, zt, zg, zl, zd, zr, zc, za, zb, hzn, rfl, rfl, rfl⟩ := hZ
    obtain ⟨u9, hu9⟩ : ∃ X : va_W, X = cPt (ad 9 0) zh zy ((ad 5) 0) zs zn zf zn zq zt zg zl zd zr zc za zb := ⟨_, rfl⟩
    obtain ⟨Lc, hLc⟩ : ∃ X : List (Nat × List (ClassId × FieldType) × va_W × va_W), X = [(0, tLL (cy 0), bs 0, bs 0), (4, tSt (cy 4), bs 4, bs 4), (5, tW (cy 5), bs 5, bs 5), (jl, tLd ly, bs jl, bs jl), (9, tPt yp9, bs 9, u9)] := ⟨_, rfl⟩
    have hmc : Lc.map Prod.fst = [0, 4, 5, jl, 9] := by rw [hLc]; rfl
    have hnd : (Lc.map Prod.fst).Nodup := by rw [hmc, ← hmo]; exact hno
    obtain ⟨bc, hbc⟩ : ∃ X, X = bsetL bs Lc := ⟨_, rfl⟩
    have t0 : bc 0 = bs 0 := by rw [hbc]; exact bsetL_at (x := (0, tLL (cy 0), bs 0, bs 0)) hnd (by rw [hLc]; exact List.mem_of_getElem? (i := 0) rfl)
    have t1 : bc 4 = bs 4 := by rw [hbc]; exact bsetL_at (x := (4, tSt (cy 4), bs 4, bs 4)) hnd (by rw [hLc]; exact List.mem_of_getElem? (i := 1) rfl)
    have t2 : bc 5 = bs 5 := by rw [hbc]; exact bsetL_at (x := (5, tW (cy 5), bs 5, bs 5)) hnd (by rw [hLc]; exact List.mem_of_getElem? (i := 2) rfl)
    have t3 : bc jl = bs jl := by rw [hbc]; exact bsetL_at (x := (jl, tLd ly, bs jl, bs jl)) hnd (by rw [hLc]; exact List.mem_of_getElem? (i := 3) rfl)
    have t4 : bc 9 = u9 := by rw [hbc]; exact bsetL_at (x := (9, tPt yp9, bs 9, u9)) hnd (by rw [hLc]; exact List.mem_of_getElem? (i := 4) rfl)
    have E1 : ∀ j, (j ≠ 9) → bc j = bs j := by
      intro j hj
      by_cases q0 : j = 0
      · rw [q0]; exact t0
      by_cases q1 : j = 4
      · rw [q1]; exact t1
      by_cases q2 : j = 5
      · rw [q2]; exact t2
      by_cases q3 : j = jl
      · rw [q3]; exact t3
      rw [hbc]
      exact bsetL_ne (by rw [hmc]; simp only [List.mem_cons, List.not_mem_nil, or_false, not_or]; omega)
    obtain ⟨hP, hD⟩ := hcv bc ([]) (fun j h8 h9 => by rw [hbc]; exact bsetL_ne (by rw [hmc, ← hmo]; exact h9)) (by rw [hmo]; simp only [List.flatMap_cons, List.flatMap_nil, List.append_nil, List.append_assoc, t0, t1, t2, t3, t4]; rw [b0, b4, b5, bl, hu9])
    rw [List.append_nil] at hP hD
    refine lv_aload_n hx hb dL_law_676 rfl (lv_at hl 1 rfl) ?_
    refine ld1 C hS hl hi dL_law_677 dL_law_678 dL_law_679 dL_law_680 dL_law_681 ?_
    refine ld2 C hS hl hi dL_law_682 dL_law_683 dL_law_684 dL_law_685 dL_law_686 ?_
    refine ld3 C hS hl hi dL_law_687 dL_law_688 dL_law_689 dL_law_690 dL_law_691 ?_
    obtain ⟨um, hum⟩ : ∃ X : va_W, X = (cM (ad 46) (cy 46) tape len (nn m) sign lg clause clauses rd nxt wrg num txt mde dep lns opn opd stk tp wd S fo x wil mov brk w (nn c) kpt bhr far1 fq1 fu1 ow1 mp1 mk1 isf sth drx im imF imX imM) := ⟨_, rfl⟩
    have bm : bc 46 = _ := (E1 46 (by omega)).trans b46
    obtain ⟨Lm, hLm⟩ : ∃ X : List (Nat × List (ClassId × FieldType) × va_W × va_W), X = [(46, tM (cy 46), bc 46, um)] := ⟨_, rfl⟩
    have hnm : (Lm.map Prod.fst).Nodup := by rw [hLm]; show ([46] : List Nat).Nodup; decide
    refine mbQ_i (As := [.int (xs (i + 1)), .int (xs (i + 2)), .int (xs (i + 3))]) (rest := [.int rz]) Lm S9 k0 hP hD hS hA (c12_move (l := l) (D := D) (ad := (ad 46)) (cy := (cy 46)) (z_tape := tape) (z_taped := len) (z_rules := (nn m)) (z_sign := sign) (z_length := lg) (z_clause := clause) (z_clauses := clauses) (z_read := rd) (z_next := nxt) (z_wrong := wrg) (z_number := num) (z_text := txt) (z_made := mde) (z_deep := dep) (z_lines := lns) (z_open := opn) (z_opened := opd) (z_stack := stk) (z_top := tp) (z_word := wd) (z_said := S) (z_force := fo) (z_x := x) (z_will := wil) (z_moved := mov) (z_broke := brk) (z_wasSaid := w) (z_undone := (nn c)) (z_kept := kpt) (z_breakHour := bhr) (z_far := far) (z_queue := que) (z_queued := qud) (z_isOnWay := onw) (z_movePerson := mvp) (z_moveKind := mvk) (z_isFit := isf) (z_standThen := sth) (z_drawX := drx) (z_images := im) (z_imageForce := imF) (z_imageX := imX) (z_isMade := imM) (a1 := (xs (i + 1))) (a2 := (xs (i + 2))) (a3 := (xs (i + 3))) (o_ret := rz) (o_said := S) (o_far := far1) (o_queue := fq1) (o_queued := fu1) (o_isOnWay := ow1) (o_movePerson := mp1) (o_moveKind := mk1) hm) hnm (by rw [hLm]; exact List.forall_mem_cons.mpr ⟨show 46 < N by omega, fun _ h9 => absurd h9 List.not_mem_nil⟩) (by rw [hLm]; exact List.forall_mem_cons.mpr ⟨kM, fun _ h9 => absurd h9 List.not_mem_nil⟩) (by rw [hLm]; exact List.forall_mem_cons.mpr ⟨rfl, fun _ h9 => absurd h9 List.not_mem_nil⟩) (by rw [hLm]; rfl) (by rw [hLm]; simp only [List.flatMap_cons, List.flatMap_nil, List.append_nil, List.append_assoc]; rw [bm]) (by rw [hLm]; simp only [List.flatMap_cons, List.flatMap_nil, List.append_nil, List.append_assoc]; rw [hum]) (gdV mw_50_12 mw_50_13 mw_50_14 mw_1_5 mw_50_15) rfl rfl hd_f12_move ⟨Nat.le_of_ble_eq_true rfl, Nat.le_of_ble_eq_true rfl⟩ (ci := 12) (q0 := 0) rfl rfl rfl hl.1 rfl (Nat.le_of_ble_eq_true rfl) dL_law_692 hf8 (fun H locs hP hD hS => ?_)
    obtain ⟨bn, hbn⟩ : ∃ X, X = bsetL bc Lm := ⟨_, rfl⟩
    rw [← hbn] at hP hD
    have tm : bn 46 = um := by rw [hbn]; exact bsetL_at (x := (46, tM (cy 46), bc 46, um)) hnm (by rw [hLm]; exact List.mem_of_getElem? (i := 0) rfl)
    have E2 : ∀ j, j ≠ 46 → bn j = bc j := by
      intro j hj
      rw [hbn]
      exact bsetL_ne (by rw [hLm]; show j ∉ ([46] : List Nat); simp only [List.mem_cons, List.not_mem_nil, or_false]; exact hj)
    have E : ∀ j, (j ≠ 46 ∧ j ≠ 9) → bn j = bs j := fun j hj => (E2 j (by omega)).trans (E1 j (by omega))
    have s4 : bn 9 = u9 := (E2 _ (by omega)).trans t4
    refine lv_icmp_eq (tgt := 1115) hx hb dL_law_695 rfl (fun _ => ?_) (fun c8 => absurd rfl c8)
    refine W.widen (k := cells + 8) (n := slots + 13200) (by omega) (by omega) ?_
    have EL : ∀ j, 47 ≤ j → j < N → bn j = bs j := fun j h1 h2 => E j (by omega)
    exact kk N bn H locs ⟨m, c, nx, tn, R, P, (lh 0), rls, bytes, len, fo, x, notes, nh, nr, nm, hour, broken, rung, grip, want, slips, worn, tape, sign, clause, clauses, S, w, im, imF, imX, imM, hN, (E 0 (by omega)).trans b0, hBT.congr (E 1 (by omega)), (E 2 (by omega)).trans b2, hBRR.congr (E 3 (by omega)), hBN.congr (E 4 (by omega)), (E 5 (by omega)).trans b5, hBH.congr (E 6 (by omega)), hBO.congr (E 7 (by omega)), hB8.congr (E 8 (by omega)), ⟨zh, zy, zn, _, _, _, _, _, _, _, _, _, _, _, hzn, (s4.trans hu9), hKz.sub [17, 18, 19, 20, 21, 22, 23] rfl⟩, hBS.congr (E 10 (by omega)), hB11.congr (E 11 (by omega)), hSc.congr (Nat.le_refl _) EL, hPs.congr (fun k hk => E _ (by omega)), hIm.congr (Nat.le_refl _) (Nat.le_refl _) (fun k hk => E _ (by omega)) EL, hRu.congr (fun j hj => E _ (by omega)) hm6, ⟨_, _, _, _, _, _, _, _, _, _, _, _, _, _, _, _, _, _, _, _, _, _, _, _, _, _, _, _, tm.trans hum⟩, hTP, hm6, hof, hox⟩ hP hD hS

set_option maxHeartbeats 8000000 in
set_option maxRecDepth 100000 in
theorem k_squeeze (C : Cx p m9 c9 s A D adK adV ad cy ims pst b L xs) (hi : i + 6 ≤ L) (T : Top D s ad cy ims pst N bs) (hP : va_P D vwCl (bW N bs) H) (hD : va_D A (bW N bs)) (hS : va_S A s.heap H locs) (hl : lv_has ls 4 (lvL ad b i)) (hf : cells + 8 ≤ 600000 ∧ slots + 13200 ≤ 7302250)
    (kk : ∀ (N : Nat) (bs : Nat → va_W) (H : Heap) (locs : List Loc), Top D s ad cy ims pst N bs → va_P D vwCl (bW N bs) H → va_D A (bW N bs) → va_S A s.heap H locs → W p l e room_1 s m9 #[.ref b] below meth c9 H locs (cells + 8) (slots + 13200) Q (F0 m9 1115 ls [])) : W p l e room_1 s m9 #[.ref b] below meth c9 H locs cells slots Q (F0 m9 700 ls []) := by
  obtain ⟨m, c, nx, tn, R, P, A0, rls, bytes, len, fo, x, notes, nh, nr, nm, hour, broken, rung, grip, want, slips, worn, tape, sign, clause, clauses, S, w, im, imF, imX, imM, hN, b0, hBT, b2, hBRR, hBN, b5, hBH, hBO, hB8, hBP, hBS, hB11, hSc, hPs, hIm, hRu, hBM, hTP, hm6, hof, hox⟩ := T
  obtain ⟨S9, hA, hbA, hbl, hX, hL9, hF, hE9, hV9⟩ := id C
  obtain ⟨hx, hb, hml, hown, hts⟩ := id S9
  obtain ⟨k0, kLL, kTp, kRR, kS4, kW5, kH, kO, kW8, kW11, kM, kIm, kPs⟩ := id hF
  have hf9 : cells ≤ room_1.cells ∧ slots ≤ room_1.slots := ⟨Nat.le_trans (Nat.le_add_right _ _) hf.1, Nat.le_trans (Nat.le_add_right _ _) hf.2⟩
  obtain ⟨lg, rd, nxt, wrg, num, txt, mde, dep, lns, opn, opd, stk, tp, wd, wil, mov, brk, kpt, bhr, far, que, qud, onw, mvp, mvk, isf, sth, drx, b46⟩ := id hBM
  obtain ⟨jl, lh, ly, ru, pe, sb, ro, str, wt, tol, srr, sww, g1, g2, g3, bl, kl, hI, hW, hL, hWT, hBg, hhr, hNo⟩ := id hSc
  subst g3
  obtain ⟨md, b4⟩ := id hBN
  obtain ⟨hp9, yp9, n9, ps9, pf9, pq9, pt9, pg9, pl9, pd9, pr9, pc9, pa9, pb9, hn9, b9, k9⟩ := id hBP
  have hcase : (n9 = 6561 ∨ ¬ PW R P S (xs (i + 1))) ∨ (n9 = 0 ∧ PW R P S (xs (i + 1))) := by
    rcases hn9 with h | h
    · by_cases q : PW R P S (xs (i + 1))
      · exact Or.inr ⟨h, q⟩
      · exact Or.inl (Or.inr q)
    · exact Or.inl (Or.inl h)
  rcases hcase with hnp | ⟨hn0, hpw⟩
  · skip
    obtain ⟨v, z_set, z_from, z_queue, z_tail, z_digit, z_rung, z_crowd, z_above, z_below, far1, fq1, fu1, hc, hm⟩ := r_squeeze (n := n9) (pset := ps9) (t0 := pt9) (f0 := pf9) (q0 := pq9) (rung := pr9) (crowd := pc9) (digit := pd9) (above := pa9) (below := pb9) (far := far) (fq := que) (fu := qud) hI hW hL (xs (i + 1)) hnp
    refine lv_aload_n hx hb dL_law_700 rfl (lv_at hl 2 rfl) ?_
    refine ld1 C hS hl hi dL_law_701 dL_law_702 dL_law_703 dL_law_704 dL_law_705 ?_
    obtain ⟨u9, hu9⟩ : ∃ X : va_W, X = cPt (ad 9 0) hp9 yp9 ((ad 5) 0) z_set n9 z_from n9 z_queue z_tail pg9 pl9 z_digit z_rung z_crowd z_above z_below := ⟨_, rfl⟩
    obtain ⟨Lc, hLc⟩ : ∃ X : List (Nat × List (ClassId × FieldType) × va_W × va_W), X = [(0, tLL (cy 0), bs 0, bs 0), (4, tSt (cy 4), bs 4, bs 4), (5, tW (cy 5), bs 5, bs 5), (jl, tLd ly, bs jl, bs jl), (9, tPt yp9, bs 9, u9)] := ⟨_, rfl⟩
    have hnd : (Lc.map Prod.fst).Nodup := by rw [hLc]; show ([0, 4, 5, jl, 9] : List Nat).Nodup; simp only [List.nodup_cons, List.mem_cons, List.not_mem_nil, or_false, not_or, List.nodup_nil, and_true, not_false_eq_true] <;> omega
    have hlt : ∀ x ∈ Lc, x.1 < N := by rw [hLc]; exact List.forall_mem_cons.mpr ⟨show 0 < N by omega, List.forall_mem_cons.mpr ⟨show 4 < N by omega, List.forall_mem_cons.mpr ⟨show 5 < N by omega, List.forall_mem_cons.mpr ⟨show jl < N by omega, List.forall_mem_cons.mpr ⟨show 9 < N by omega, fun _ h9 => absurd h9 List.not_mem_nil⟩⟩⟩⟩⟩
    have hkL : ∀ x ∈ Lc, va_K D vwCl x.2.1 s := by rw [hLc]; exact List.forall_mem_cons.mpr ⟨kLL, List.forall_mem_cons.mpr ⟨kS4, List.forall_mem_cons.mpr ⟨kW5, List.forall_mem_cons.mpr ⟨kl, List.forall_mem_cons.mpr ⟨k9, fun _ h9 => absurd h9 List.not_mem_nil⟩⟩⟩⟩⟩
    have hbL : ∀ x ∈ Lc, bs x.1 = x.2.2.1 := by rw [hLc]; exact List.forall_mem_cons.mpr ⟨rfl, List.forall_mem_cons.mpr ⟨rfl, List.forall_mem_cons.mpr ⟨rfl, List.forall_mem_cons.mpr ⟨rfl, List.forall_mem_cons.mpr ⟨rfl, fun _ h9 => absurd h9 List.not_mem_nil⟩⟩⟩⟩⟩
    refine mbQ_i (As := [.int (xs (i + 1))]) (rest := []) Lc S9 k0 hP hD hS hA (c11_squeeze_a (l := l) (D := D) (ad_this := (ad 0)) (cy_this := (cy 0)) (z_this_tape := (ad 1 0)) (z_this_ladderReader := (ad 2 0)) (z_this_ruleReader := (ad 3 0)) (z_this_rules := rls) (z_this_ruleCount := (nn m)) (z_this_images := ims) (z_this_past := pst) (z_this_pastNext := (nn nx)) (z_this_pastCount := (nn c)) (z_this_hours := (ad 6 0)) (z_this_outlook := (ad 7 0)) (z_this_siege := (ad 10 0)) (ad_this_now := (ad 4)) (cy_this_now := (cy 4)) (z_this_now_force := fo) (z_this_now_x := x) (z_this_now_notes := notes) (z_this_now_noteHour := nh) (z_this_now_noteRung := nr) (z_this_now_noteMany := nm) (z_this_now_made := md) (ad_this_now_world := (ad 5)) (cy_this_now_world := (cy 5)) (z_this_now_world_hour := hour) (z_this_now_world_broken := broken) (z_this_now_world_rung := rung) (z_this_now_world_grip := grip) (z_this_now_world_want := want) (z_this_now_world_slips := slips) (z_this_now_world_worn := worn) (ad_this_now_world_ladder := lh) (cy_this_now_world_ladder := ly) (z_this_now_world_ladder_rungs := ru) (z_this_now_world_ladder_people := pe) (z_this_now_world_ladder_startBroken := sb) (z_this_now_world_ladder_room := ro) (z_this_now_world_ladder_strength := str) (z_this_now_world_ladder_weight := wt) (z_this_now_world_ladder_told := tol) (z_this_now_world_ladder_startRung := srr) (z_this_now_world_ladder_startWant := sww) (aa_this_paths := (ad 9 0)) (ad_this_paths := hp9) (cy_this_paths := yp9) (z_this_paths_set := ps9) (n_this_paths_from := n9) (z_this_paths_from := pf9) (n_this_paths_queue := n9) (z_this_paths_queue := pq9) (z_this_paths_tail := pt9) (z_this_paths_goal := pg9) (z_this_paths_rowLength := pl9) (z_this_paths_digit := pd9) (z_this_paths_rung := pr9) (z_this_paths_crowd := pc9) (z_this_paths_above := pa9) (z_this_paths_below := pb9) (a1 := (xs (i + 1))) (o_ret := v) (o_this_paths_set := z_set) (o_this_paths_from := z_from) (o_this_paths_queue := z_queue) (o_this_paths_tail := z_tail) (o_this_paths_digit := z_digit) (o_this_paths_rung := z_rung) (o_this_paths_crowd := z_crowd) (o_this_paths_above := z_above) (o_this_paths_below := z_below) hc) hnd hlt hkL hbL (by rw [hLc]; rfl) (by rw [hLc]; simp only [List.flatMap_cons, List.flatMap_nil, List.append_nil, List.append_assoc]; rw [b0, b4, b5, bl, b9]) (by rw [hLc]; simp only [List.flatMap_cons, List.flatMap_nil, List.append_nil, List.append_assoc]; rw [b0, b4, b5, bl, hu9]) (gdV mw_51_2 mw_51_3 mw_51_4 mw_1_2 mw_51_5) rfl rfl hd_f11_squeeze ⟨Nat.le_of_ble_eq_true rfl, Nat.le_of_ble_eq_true rfl⟩ (ci := 11) (q0 := 0) rfl rfl rfl hl.1 rfl (Nat.le_of_ble_eq_true rfl) dL_law_706 hf9 (fun H locs hP hD hS => ?_)
    obtain ⟨bc, hbc⟩ : ∃ X, X = bsetL bs Lc := ⟨_, rfl⟩
    rw [← hbc] at hP hD
    have t0 : bc 0 = bs 0 := by rw [hbc]; exact bsetL_at (x := (0, tLL (cy 0), bs 0, bs 0)) hnd (by rw [hLc]; exact List.mem_of_getElem? (i := 0) rfl)
    have t1 : bc 4 = bs 4 := by rw [hbc]; exact bsetL_at (x := (4, tSt (cy 4), bs 4, bs 4)) hnd (by rw [hLc]; exact List.mem_of_getElem? (i := 1) rfl)
    have t2 : bc 5 = bs 5 := by rw [hbc]; exact bsetL_at (x := (5, tW (cy 5), bs 5, bs 5)) hnd (by rw [hLc]; exact List.mem_of_getElem? (i := 2) rfl)
    have t3 : bc jl = bs jl := by rw [hbc]; exact bsetL_at (x := (jl, tLd ly, bs jl, bs jl)) hnd (by rw [hLc]; exact List.mem_of_getElem? (i := 3) rfl)
    have t4 : bc 9 = u9 := by rw [hbc]; exact bsetL_at (x := (9, tPt yp9, bs 9, u9)) hnd (by rw [hLc]; exact List.mem_of_getElem? (i := 4) rfl)
    have E1 : ∀ j, (j ≠ 9) → bc j = bs j := by
      intro j hj
      by_cases q0 : j = 0
      · rw [q0]; exact t0
      by_cases q1 : j = 4
      · rw [q1]; exact t1
      by_cases q2 : j = 5
      · rw [q2]; exact t2
      by_cases q3 : j = jl
      · rw [q3]; exact t3
      rw [hbc]
      exact bsetL_ne (by rw [hLc]; show j ∉ ([0, 4, 5, jl, 9] : List Nat); simp only [List.mem_cons, List.not_mem_nil, or_false, not_or]; omega)
    refine lv_aload_n hx hb dL_law_709 rfl (lv_at hl 1 rfl) ?_
    refine ld1 C hS hl hi dL_law_710 dL_law_711 dL_law_712 dL_law_713 dL_law_714 ?_
    obtain ⟨um, hum⟩ : ∃ X : va_W, X = (cM (ad 46) (cy 46) tape len (nn m) sign lg clause clauses rd nxt wrg num txt mde dep lns opn opd stk tp wd S fo x wil mov brk w (nn c) kpt bhr far1 fq1 fu1 onw mvp mvk isf sth drx im imF imX imM) := ⟨_, rfl⟩
    have bm : bc 46 = _ := (E1 46 (by omega)).trans b46
    obtain ⟨Lm, hLm⟩ : ∃ X : List (Nat × List (ClassId × FieldType) × va_W × va_W), X = [(46, tM (cy 46), bc 46, um)] := ⟨_, rfl⟩
    have hnm : (Lm.map Prod.fst).Nodup := by rw [hLm]; show ([46] : List Nat).Nodup; decide
    refine mbQ_i (As := [.int (xs (i + 1))]) (rest := [.int v]) Lm S9 k0 hP hD hS hA (c12_squeeze (l := l) (D := D) (ad := (ad 46)) (cy := (cy 46)) (z_tape := tape) (z_taped := len) (z_rules := (nn m)) (z_sign := sign) (z_length := lg) (z_clause := clause) (z_clauses := clauses) (z_read := rd) (z_next := nxt) (z_wrong := wrg) (z_number := num) (z_text := txt) (z_made := mde) (z_deep := dep) (z_lines := lns) (z_open := opn) (z_opened := opd) (z_stack := stk) (z_top := tp) (z_word := wd) (z_said := S) (z_force := fo) (z_x := x) (z_will := wil) (z_moved := mov) (z_broke := brk) (z_wasSaid := w) (z_undone := (nn c)) (z_kept := kpt) (z_breakHour := bhr) (z_far := far) (z_queue := que) (z_queued := qud) (z_isOnWay := onw) (z_movePerson := mvp) (z_moveKind := mvk) (z_isFit := isf) (z_standThen := sth) (z_drawX := drx) (z_images := im) (z_imageForce := imF) (z_imageX := imX) (z_isMade := imM) (a1 := (xs (i + 1))) (o_ret := v) (o_said := S) (o_far := far1) (o_queue := fq1) (o_queued := fu1) hm) hnm (by rw [hLm]; exact List.forall_mem_cons.mpr ⟨show 46 < N by omega, fun _ h9 => absurd h9 List.not_mem_nil⟩) (by rw [hLm]; exact List.forall_mem_cons.mpr ⟨kM, fun _ h9 => absurd h9 List.not_mem_nil⟩) (by rw [hLm]; exact List.forall_mem_cons.mpr ⟨rfl, fun _ h9 => absurd h9 List.not_mem_nil⟩) (by rw [hLm]; rfl) (by rw [hLm]; simp only [List.flatMap_cons, List.flatMap_nil, List.append_nil, List.append_assoc]; rw [bm]) (by rw [hLm]; simp only [List.flatMap_cons, List.flatMap_nil, List.append_nil, List.append_assoc]; rw [hum]) (gdV mw_51_10 mw_51_11 mw_51_12 mw_1_5 mw_51_13) rfl rfl hd_f12_squeeze ⟨Nat.le_of_ble_eq_true rfl, Nat.le_of_ble_eq_true rfl⟩ (ci := 12) (q0 := 0) rfl rfl rfl hl.1 rfl (Nat.le_of_ble_eq_true rfl) dL_law_715 hf9 (fun H locs hP hD hS => ?_)
    obtain ⟨bn, hbn⟩ : ∃ X, X = bsetL bc Lm := ⟨_, rfl⟩
    rw [← hbn] at hP hD
    have tm : bn 46 = um := by rw [hbn]; exact bsetL_at (x := (46, tM (cy 46), bc 46, um)) hnm (by rw [hLm]; exact List.mem_of_getElem? (i := 0) rfl)
    have E2 : ∀ j, j ≠ 46 → bn j = bc j := by
      intro j hj
      rw [hbn]
      exact bsetL_ne (by rw [hLm]; show j ∉ ([46] : List Nat); simp only [List.mem_cons, List.not_mem_nil, or_false]; exact hj)
    have E : ∀ j, (j ≠ 46 ∧ j ≠ 9) → bn j = bs j := fun j hj => (E2 j (by omega)).trans (E1 j (by omega))
    have s4 : bn 9 = u9 := (E2 _ (by omega)).trans t4
    refine lv_icmp_eq (tgt := 1115) hx hb dL_law_718 rfl (fun _ => ?_) (fun c8 => absurd rfl c8)
    refine W.widen (k := cells + 8) (n := slots + 13200) (by omega) (by omega) ?_
    have EL : ∀ j, 47 ≤ j → j < N → bn j = bs j := fun j h1 h2 => E j (by omega)
    exact kk N bn H locs ⟨m, c, nx, tn, R, P, (lh 0), rls, bytes, len, fo, x, notes, nh, nr, nm, hour, broken, rung, grip, want, slips, worn, tape, sign, clause, clauses, S, w, im, imF, imX, imM, hN, (E 0 (by omega)).trans b0, hBT.congr (E 1 (by omega)), (E 2 (by omega)).trans b2, hBRR.congr (E 3 (by omega)), hBN.congr (E 4 (by omega)), (E 5 (by omega)).trans b5, hBH.congr (E 6 (by omega)), hBO.congr (E 7 (by omega)), hB8.congr (E 8 (by omega)), ⟨hp9, yp9, n9, _, _, _, _, _, _, _, _, _, _, _, hn9, (s4.trans hu9), k9⟩, hBS.congr (E 10 (by omega)), hB11.congr (E 11 (by omega)), hSc.congr (Nat.le_refl _) EL, hPs.congr (fun k hk => E _ (by omega)), hIm.congr (Nat.le_refl _) (Nat.le_refl _) (fun k hk => E _ (by omega)) EL, hRu.congr (fun j hj => E _ (by omega)) hm6, ⟨_, _, _, _, _, _, _, _, _, _, _, _, _, _, _, _, _, _, _, _, _, _, _, _, _, _, _, _, tm.trans hum⟩, hTP, hm6, hof, hox⟩ hP hD hS
  · skip
    subst hn0
    obtain ⟨v, z_set, z_from, z_queue, z_tail, z_digit, z_rung, z_crowd, z_above, z_below, far1, fq1, fu1, hc, hm⟩ := r_squeeze (n := 6561) (pset := ps9) (t0 := pt9) (f0 := (fun _ => (0 : Int32))) (q0 := (fun _ => (0 : Int32))) (rung := pr9) (crowd := pc9) (digit := pd9) (above := pa9) (below := pb9) (far := far) (fq := que) (fu := qud) hI hW hL (xs (i + 1)) (Or.inl rfl)
    have hw9 : f10_whoIsLeft rung pe = some (lfF (gR S) P) := by rw [hL.2.1]; exact c_whoLeft hI hW
    have hc9 : ((xs (i + 1)) &&& (lfF (gR S) P ^^^ (-1 : Int32))) = 0 := by
      obtain ⟨-, a9, ha9, ea9, hq9⟩ := hpw
      rw [ea9]
      exact (set_test hI.1.2.1 ha9).mpr hq9
    have hf8 : cells + 2 ≤ room_1.cells ∧ slots + 13122 ≤ room_1.slots := ⟨by show cells + 2 ≤ 600000; omega, by show slots + 13122 ≤ 7302250; omega⟩
    refine lv_aload_n hx hb dL_law_700 rfl (lv_at hl 2 rfl) ?_
    refine ld1 C hS hl hi dL_law_701 dL_law_702 dL_law_703 dL_law_704 dL_law_705 ?_
    obtain ⟨Lo, hLo⟩ : ∃ X : List (Nat × List (ClassId × FieldType) × va_W × va_W), X = [(0, tLL (cy 0), bs 0, bs 0), (4, tSt (cy 4), bs 4, bs 4), (5, tW (cy 5), bs 5, bs 5), (jl, tLd ly, bs jl, bs jl), (9, tPt yp9, bs 9, bs 9)] := ⟨_, rfl⟩
    have hmo : Lo.map Prod.fst = [0, 4, 5, jl, 9] := by rw [hLo]; rfl
    have hno : (Lo.map Prod.fst).Nodup := by rw [hmo]; simp only [List.nodup_cons, List.mem_cons, List.not_mem_nil, or_false, not_or, List.nodup_nil, and_true, not_false_eq_true] <;> omega
    have hlt : ∀ x ∈ Lo, x.1 < N := by rw [hLo]; exact List.forall_mem_cons.mpr ⟨show 0 < N by omega, List.forall_mem_cons.mpr ⟨show 4 < N by omega, List.forall_mem_cons.mpr ⟨show 5 < N by omega, List.forall_mem_cons.mpr ⟨show jl < N by omega, List.forall_mem_cons.mpr ⟨show 9 < N by omega, fun _ h9 => absurd h9 List.not_mem_nil⟩⟩⟩⟩⟩
    have hkL : ∀ x ∈ Lo, va_K D vwCl x.2.1 s := by rw [hLo]; exact List.forall_mem_cons.mpr ⟨kLL, List.forall_mem_cons.mpr ⟨kS4, List.forall_mem_cons.mpr ⟨kW5, List.forall_mem_cons.mpr ⟨kl, List.forall_mem_cons.mpr ⟨k9, fun _ h9 => absurd h9 List.not_mem_nil⟩⟩⟩⟩⟩
    have hbL : ∀ x ∈ Lo, bs x.1 = x.2.2.1 := by rw [hLo]; exact List.forall_mem_cons.mpr ⟨rfl, List.forall_mem_cons.mpr ⟨rfl, List.forall_mem_cons.mpr ⟨rfl, List.forall_mem_cons.mpr ⟨rfl, List.forall_mem_cons.mpr ⟨rfl, fun _ h9 => absurd h9 List.not_mem_nil⟩⟩⟩⟩⟩
    refine mbQ_T (As := [.int (xs (i + 1))]) (rest := []) Lo S9 k0 hP hD hS hA hE9 hV9 (c11_squeeze_A (l := l) (D := D) (ad_this := (ad 0)) (cy_this := (cy 0)) (z_this_tape := (ad 1 0)) (z_this_ladderReader := (ad 2 0)) (z_this_ruleReader := (ad 3 0)) (z_this_rules := rls) (z_this_ruleCount := (nn m)) (z_this_images := ims) (z_this_past := pst) (z_this_pastNext := (nn nx)) (z_this_pastCount := (nn c)) (z_this_hours := (ad 6 0)) (z_this_outlook := (ad 7 0)) (z_this_siege := (ad 10 0)) (ad_this_now := (ad 4)) (cy_this_now := (cy 4)) (z_this_now_force := fo) (z_this_now_x := x) (z_this_now_notes := notes) (z_this_now_noteHour := nh) (z_this_now_noteRung := nr) (z_this_now_noteMany := nm) (z_this_now_made := md) (ad_this_now_world := (ad 5)) (cy_this_now_world := (cy 5)) (z_this_now_world_hour := hour) (z_this_now_world_broken := broken) (z_this_now_world_rung := rung) (z_this_now_world_grip := grip) (z_this_now_world_want := want) (z_this_now_world_slips := slips) (z_this_now_world_worn := worn) (ad_this_now_world_ladder := lh) (cy_this_now_world_ladder := ly) (z_this_now_world_ladder_rungs := ru) (z_this_now_world_ladder_people := pe) (z_this_now_world_ladder_startBroken := sb) (z_this_now_world_ladder_room := ro) (z_this_now_world_ladder_strength := str) (z_this_now_world_ladder_weight := wt) (z_this_now_world_ladder_told := tol) (z_this_now_world_ladder_startRung := srr) (z_this_now_world_ladder_startWant := sww) (aa_this_paths := (ad 9 0)) (ad_this_paths := hp9) (cy_this_paths := yp9) (z_this_paths_set := ps9) (z_this_paths_from := pf9) (z_this_paths_queue := pq9) (z_this_paths_tail := pt9) (z_this_paths_goal := pg9) (z_this_paths_rowLength := pl9) (z_this_paths_digit := pd9) (z_this_paths_rung := pr9) (z_this_paths_crowd := pc9) (z_this_paths_above := pa9) (z_this_paths_below := pb9) (a1 := (xs (i + 1))) (o_ret := v) (o_this_paths_set := z_set) (o_this_paths_from := z_from) (o_this_paths_queue := z_queue) (o_this_paths_tail := z_tail) (o_this_paths_digit := z_digit) (o_this_paths_rung := z_rung) (o_this_paths_crowd := z_crowd) (o_this_paths_above := z_above) (o_this_paths_below := z_below) (adK := adK) (adV := adV) (r_0 := (lfF (gR S) P)) hw9 hc9 hc) hno hlt hkL hbL (by rw [hLo]; rfl) (by rw [hLo]; simp only [List.flatMap_cons, List.flatMap_nil, List.append_nil, List.append_assoc]; rw [b0, b4, b5, bl, b9]) (gdV mw_51_2 mw_51_3 mw_51_4 mw_1_2 mw_51_5) rfl rfl hd_f11_squeeze ⟨Nat.le_of_ble_eq_true rfl, Nat.le_of_ble_eq_true rfl⟩ (ci := 11) (q0 := 0) rfl rfl rfl hl.1 rfl (Nat.le_of_ble_eq_true rfl) dL_law_706 ⟨by show cells + 2 ≤ 600000; omega, by show slots + 13122 ≤ 7302250; omega⟩ (fun wz tz rz H locs hZ hKz hcv hS => ?_)
    obtain ⟨zh, zy, zn, zs, zf, zq, zt, zg, zl, zd, zr, zc, za, zb, hzn, rfl, rfl, rfl⟩ := hZ
    obtain ⟨u9, hu9⟩ : ∃ X : va_W, X = cPt (ad 9 0) zh zy ((ad 5) 0) zs zn zf zn zq zt zg zl zd zr zc za zb := ⟨_, rfl⟩
    obtain ⟨Lc, hLc⟩ : ∃ X : List (Nat × List (ClassId × FieldType) × va_W × va_W), X = [(0, tLL (cy 0), bs 0, bs 0), (4, tSt (cy 4), bs 4, bs 4), (5, tW (cy 5), bs 5, bs 5), (jl, tLd ly, bs jl, bs jl), (9, tPt yp9, bs 9, u9)] := ⟨_, rfl⟩
    have hmc : Lc.map Prod.fst = [0, 4, 5, jl, 9] := by rw [hLc]; rfl
    have hnd : (Lc.map Prod.fst).Nodup := by rw [hmc, ← hmo]; exact hno
    obtain ⟨bc, hbc⟩ : ∃ X, X = bsetL bs Lc := ⟨_, rfl⟩
    have t0 : bc 0 = bs 0 := by rw [hbc]; exact bsetL_at (x := (0, tLL (cy 0), bs 0, bs 0)) hnd (by rw [hLc]; exact List.mem_of_getElem? (i := 0) rfl)
    have t1 : bc 4 = bs 4 := by rw [hbc]; exact bsetL_at (x := (4, tSt (cy 4), bs 4, bs 4)) hnd (by rw [hLc]; exact List.mem_of_getElem? (i := 1) rfl)
    have t2 : bc 5 = bs 5 := by rw [hbc]; exact bsetL_at (x := (5, tW (cy 5), bs 5, bs 5)) hnd (by rw [hLc]; exact List.mem_of_getElem? (i := 2) rfl)
    have t3 : bc jl = bs jl := by rw [hbc]; exact bsetL_at (x := (jl, tLd ly, bs jl, bs jl)) hnd (by rw [hLc]; exact List.mem_of_getElem? (i := 3) rfl)
    have t4 : bc 9 = u9 := by rw [hbc]; exact bsetL_at (x := (9, tPt yp9, bs 9, u9)) hnd (by rw [hLc]; exact List.mem_of_getElem? (i := 4) rfl)
    have E1 : ∀ j, (j ≠ 9) → bc j = bs j := by
      intro j hj
      by_cases q0 : j = 0
      · rw [q0]; exact t0
      by_cases q1 : j = 4
      · rw [q1]; exact t1
      by_cases q2 : j = 5
      · rw [q2]; exact t2
      by_cases q3 : j = jl
      · rw [q3]; exact t3
      rw [hbc]
      exact bsetL_ne (by rw [hmc]; simp only [List.mem_cons, List.not_mem_nil, or_false, not_or]; omega)
    obtain ⟨hP, hD⟩ := hcv bc ([]) (fun j h8 h9 => by rw [hbc]; exact bsetL_ne (by rw [hmc, ← hmo]; exact h9)) (by rw [hmo]; simp only [List.flatMap_cons, List.flatMap_nil, List.append_nil, List.append_assoc, t0, t1, t2, t3, t4]; rw [b0, b4, b5, bl, hu9])
    rw [List.append_nil] at hP hD
    refine lv_aload_n hx hb dL_law_709 rfl (lv_at hl 1 rfl) ?_
    refine ld1 C hS hl hi dL_law_710 dL_law_711 dL_law_712 dL_law_713 dL_law_714 ?_
    obtain ⟨um, hum⟩ : ∃ X : va_W, X = (cM (ad 46) (cy 46) tape len (nn m) sign lg clause clauses rd nxt wrg num txt mde dep lns opn opd stk tp wd S fo x wil mov brk w (nn c) kpt bhr far1 fq1 fu1 onw mvp mvk isf sth drx im imF imX imM) := ⟨_, rfl⟩
    have bm : bc 46 = _ := (E1 46 (by omega)).trans b46
    obtain ⟨Lm, hLm⟩ : ∃ X : List (Nat × List (ClassId × FieldType) × va_W × va_W), X = [(46, tM (cy 46), bc 46, um)] := ⟨_, rfl⟩
    have hnm : (Lm.map Prod.fst).Nodup := by rw [hLm]; show ([46] : List Nat).Nodup; decide
    refine mbQ_i (As := [.int (xs (i + 1))]) (rest := [.int rz]) Lm S9 k0 hP hD hS hA (c12_squeeze (l := l) (D := D) (ad := (ad 46)) (cy := (cy 46)) (z_tape := tape) (z_taped := len) (z_rules := (nn m)) (z_sign := sign) (z_length := lg) (z_clause := clause) (z_clauses := clauses) (z_read := rd) (z_next := nxt) (z_wrong := wrg) (z_number := num) (z_text := txt) (z_made := mde) (z_deep := dep) (z_lines := lns) (z_open := opn) (z_opened := opd) (z_stack := stk) (z_top := tp) (z_word := wd) (z_said := S) (z_force := fo) (z_x := x) (z_will := wil) (z_moved := mov) (z_broke := brk) (z_wasSaid := w) (z_undone := (nn c)) (z_kept := kpt) (z_breakHour := bhr) (z_far := far) (z_queue := que) (z_queued := qud) (z_isOnWay := onw) (z_movePerson := mvp) (z_moveKind := mvk) (z_isFit := isf) (z_standThen := sth) (z_drawX := drx) (z_images := im) (z_imageForce := imF) (z_imageX := imX) (z_isMade := imM) (a1 := (xs (i + 1))) (o_ret := rz) (o_said := S) (o_far := far1) (o_queue := fq1) (o_queued := fu1) hm) hnm (by rw [hLm]; exact List.forall_mem_cons.mpr ⟨show 46 < N by omega, fun _ h9 => absurd h9 List.not_mem_nil⟩) (by rw [hLm]; exact List.forall_mem_cons.mpr ⟨kM, fun _ h9 => absurd h9 List.not_mem_nil⟩) (by rw [hLm]; exact List.forall_mem_cons.mpr ⟨rfl, fun _ h9 => absurd h9 List.not_mem_nil⟩) (by rw [hLm]; rfl) (by rw [hLm]; simp only [List.flatMap_cons, List.flatMap_nil, List.append_nil, List.append_assoc]; rw [bm]) (by rw [hLm]; simp only [List.flatMap_cons, List.flatMap_nil, List.append_nil, List.append_assoc]; rw [hum]) (gdV mw_51_10 mw_51_11 mw_51_12 mw_1_5 mw_51_13) rfl rfl hd_f12_squeeze ⟨Nat.le_of_ble_eq_true rfl, Nat.le_of_ble_eq_true rfl⟩ (ci := 12) (q0 := 0) rfl rfl rfl hl.1 rfl (Nat.le_of_ble_eq_true rfl) dL_law_715 hf8 (fun H locs hP hD hS => ?_)
    obtain ⟨bn, hbn⟩ : ∃ X, X = bsetL bc Lm := ⟨_, rfl⟩
    rw [← hbn] at hP hD
    have tm : bn 46 = um := by rw [hbn]; exact bsetL_at (x := (46, tM (cy 46), bc 46, um)) hnm (by rw [hLm]; exact List.mem_of_getElem? (i := 0) rfl)
    have E2 : ∀ j, j ≠ 46 → bn j = bc j := by
      intro j hj
      rw [hbn]
      exact bsetL_ne (by rw [hLm]; show j ∉ ([46] : List Nat); simp only [List.mem_cons, List.not_mem_nil, or_false]; exact hj)
    have E : ∀ j, (j ≠ 46 ∧ j ≠ 9) → bn j = bs j := fun j hj => (E2 j (by omega)).trans (E1 j (by omega))
    have s4 : bn 9 = u9 := (E2 _ (by omega)).trans t4
    refine lv_icmp_eq (tgt := 1115) hx hb dL_law_718 rfl (fun _ => ?_) (fun c8 => absurd rfl c8)
    refine W.widen (k := cells + 8) (n := slots + 13200) (by omega) (by omega) ?_
    have EL : ∀ j, 47 ≤ j → j < N → bn j = bs j := fun j h1 h2 => E j (by omega)
    exact kk N bn H locs ⟨m, c, nx, tn, R, P, (lh 0), rls, bytes, len, fo, x, notes, nh, nr, nm, hour, broken, rung, grip, want, slips, worn, tape, sign, clause, clauses, S, w, im, imF, imX, imM, hN, (E 0 (by omega)).trans b0, hBT.congr (E 1 (by omega)), (E 2 (by omega)).trans b2, hBRR.congr (E 3 (by omega)), hBN.congr (E 4 (by omega)), (E 5 (by omega)).trans b5, hBH.congr (E 6 (by omega)), hBO.congr (E 7 (by omega)), hB8.congr (E 8 (by omega)), ⟨zh, zy, zn, _, _, _, _, _, _, _, _, _, _, _, hzn, (s4.trans hu9), hKz.sub [17, 18, 19, 20, 21, 22, 23] rfl⟩, hBS.congr (E 10 (by omega)), hB11.congr (E 11 (by omega)), hSc.congr (Nat.le_refl _) EL, hPs.congr (fun k hk => E _ (by omega)), hIm.congr (Nat.le_refl _) (Nat.le_refl _) (fun k hk => E _ (by omega)) EL, hRu.congr (fun j hj => E _ (by omega)) hm6, ⟨_, _, _, _, _, _, _, _, _, _, _, _, _, _, _, _, _, _, _, _, _, _, _, _, _, _, _, _, tm.trans hum⟩, hTP, hm6, hof, hox⟩ hP hD hS

end
