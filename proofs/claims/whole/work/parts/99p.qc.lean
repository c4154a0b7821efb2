/-! the law's cases: ruled, look -/
theorem kFM {D : va_G} {s : State} {m : Nat} {f : Nat → List (ClassId × FieldType)} (h0 : va_K D vwCl [] s) (h : ∀ j, j < m → va_K D vwCl (f j) s) : va_K D vwCl ((List.range m).flatMap f) s := by
  refine ⟨h0.1, fun k q hk => ?_⟩
  obtain ⟨j, hj, hq⟩ := List.mem_flatMap.mp (List.mem_of_getElem? hk)
  obtain ⟨i, hi⟩ := List.mem_iff_getElem?.mp hq
  exact (h j (List.mem_range.mp hj)).2 i q hi
theorem BRu.fun {D : va_G} {s : State} {bs : Nat → va_W} {m : Nat} {rls : Nat → Option Nat} {sign clause clauses : Nat → Int32} (y0 : Nat → ClassId) (h : BRu D s bs m rls sign clause clauses) : ∃ (ra : Nat → Nat → Nat) (ry : Nat → Nat → ClassId) (ncF : Nat → Nat) (codeF : Nat → Nat → Int32) (nsF : Nat → Nat) (seF : Nat → Nat → Int32) (ntF : Nat → Nat) (teF : Nat → Nat → Int32) (skF : Nat → Nat → Int64) (tpF : Nat → Int32) (csF : Nat → CLS), ∀ j, j < m → rls j = some (ra j 0) ∧ bs (40 + j) = cRu (ra j) (ry j) (ncF j) (codeF j) (nsF j) (seF j) (ntF j) (teF j) (skF j) (tpF j) ∧ va_K D vwCl (tRu (ry j)) s ∧ RuOK (csF j) ∧ RuC (csF j) (ncF j) (codeF j) (nsF j) (seF j) (ntF j) (teF j) ∧ RuM (csF j) sign clause clauses j := by
  have h1 : ∀ j : Nat, ∃ t : (Nat → Nat) × (Nat → ClassId) × Nat × (Nat → Int32) × Nat × (Nat → Int32) × Nat × (Nat → Int32) × (Nat → Int64) × Int32 × CLS, j < m → rls j = some (t.1 0) ∧ bs (40 + j) = cRu t.1 t.2.1 t.2.2.1 t.2.2.2.1 t.2.2.2.2.1 t.2.2.2.2.2.1 t.2.2.2.2.2.2.1 t.2.2.2.2.2.2.2.1 t.2.2.2.2.2.2.2.2.1 t.2.2.2.2.2.2.2.2.2.1 ∧ va_K D vwCl (tRu t.2.1) s ∧ RuOK t.2.2.2.2.2.2.2.2.2.2 ∧ RuC t.2.2.2.2.2.2.2.2.2.2 t.2.2.1 t.2.2.2.1 t.2.2.2.2.1 t.2.2.2.2.2.1 t.2.2.2.2.2.2.1 t.2.2.2.2.2.2.2.1 ∧ RuM t.2.2.2.2.2.2.2.2.2.2 sign clause clauses j := by
    intro j
    by_cases hj : j < m
    · obtain ⟨a1, a2, a3, a4, a5, a6, a7, a8, a9, b1, b2, c1⟩ := h.1 j hj
      exact ⟨(a1, a2, a3, a4, a5, a6, a7, a8, a9, b1, b2), fun _ => c1⟩
    · exact ⟨(fun _ => 0, y0, 0, fun _ => 0, 0, fun _ => 0, 0, fun _ => 0, fun _ => 0, 0, []), fun q => absurd q hj⟩
  obtain ⟨f, hf⟩ := Classical.axiomOfChoice h1
  exact ⟨fun j => (f j).1, fun j => (f j).2.1, fun j => (f j).2.2.1, fun j => (f j).2.2.2.1, fun j => (f j).2.2.2.2.1, fun j => (f j).2.2.2.2.2.1, fun j => (f j).2.2.2.2.2.2.1, fun j => (f j).2.2.2.2.2.2.2.1, fun j => (f j).2.2.2.2.2.2.2.2.1, fun j => (f j).2.2.2.2.2.2.2.2.2.1, fun j => (f j).2.2.2.2.2.2.2.2.2.2, hf⟩
section
variable {p : Program} {l : Launch} {e : Env} {s : State} {m9 : MethodId} {below : List Frame} {meth : Method} {c9 : Code} {Q : State → Prop} {D : va_G} {A : Nat → Prop} {adK adV : Nat → Nat} {ad : Nat → Nat → Nat} {cy : Nat → Nat → ClassId} {ims pst : Nat → Option Nat} {b L i N : Nat} {xs : Nat → Int32} {bs : Nat → va_W} {H : Heap} {locs : List Loc} {cells slots : Nat} {ls : Array Slot}
set_option maxHeartbeats 8000000 in
set_option maxRecDepth 100000 in
theorem k_ruled (C : Cx p m9 c9 s A D adK adV ad cy ims pst b L xs) (hi : i + 6 ≤ L) (T : Top D s ad cy ims pst N bs) (hP : va_P D vwCl (bW N bs) H) (hD : va_D A (bW N bs)) (hS : va_S A s.heap H locs) (hl : lv_has ls 4 (lvL ad b i)) (hf : cells + 8 ≤ 600000 ∧ slots + 13200 ≤ 7302250)
    (kk : ∀ (N : Nat) (bs : Nat → va_W) (H : Heap) (locs : List Loc), Top D s ad cy ims pst N bs → va_P D vwCl (bW N bs) H → va_D A (bW N bs) → va_S A s.heap H locs → W p l e room_1 s m9 #[.ref b] below meth c9 H locs (cells + 8) (slots + 13200) Q (F0 m9 1115 ls [])) : W p l e room_1 s m9 #[.ref b] below meth c9 H locs cells slots Q (F0 m9 914 ls []) := by
  obtain ⟨m, c, nx, tn, R, P, A0, rls, bytes, len, fo, x, notes, nh, nr, nm, hour, broken, rung, grip, want, slips, worn, tape, sign, clause, clauses, S, w, im, imF, imX, imM, hN, b0, hBT, b2, hBRR, hBN, b5, hBH, hBO, hB8, hBP, hBS, hB11, hSc, hPs, hIm, hRu, hBM, hTP, hm6, hof, hox⟩ := T
  obtain ⟨S9, hA, hbA, hbl, hX, hL9, hF, hE9, hV9⟩ := id C
  obtain ⟨hx, hb, hml, hown, hts⟩ := id S9
  obtain ⟨k0, kLL, kTp, kRR, kS4, kW5, kH, kO, kW8, kW11, kM, kIm, kPs⟩ := id hF
  have hf9 : cells ≤ room_1.cells ∧ slots ≤ room_1.slots := ⟨Nat.le_trans (Nat.le_add_right _ _) hf.1, Nat.le_trans (Nat.le_add_right _ _) hf.2⟩
  obtain ⟨lg, rd, nxt, wrg, num, txt, mde, dep, lns, opn, opd, stk, tp, wd, wil, mov, brk, kpt, bhr, far, que, qud, onw, mvp, mvk, isf, sth, drx, b46⟩ := id hBM
  obtain ⟨jl, lh, ly, ru, pe, sb, ro, str, wt, tol, srr, sww, g1, g2, g3, bl, kl, hI, hW, hL, hWT, hBg, hhr, hNo⟩ := id hSc
  subst g3
  obtain ⟨md, b4⟩ := id hBN
  obtain ⟨hbr, hwl, hde, hwo, b6⟩ := id hBH
  obtain ⟨o1, o2, o3, o4, o5, o6, o7, o8, o9, oa, ob, ocr, b7⟩ := id hBO
  obtain ⟨tq, th, tb, tr, tg, tw, ts, tk, b8⟩ := id hB8
  obtain ⟨ra, ry, ncF, codeF, nsF, seF, ntF, teF, skF, tpF, csF, hrf⟩ := hRu.fun (cy 0)
  obtain ⟨v, fc1, ff1, cr1, hbk1, wl1, de1, wo1, th1, tb1, tr1, tg1, tw1, ts1, tk1, stk1, tps1, st1, tp1, wd1, wi1, mo1, bk1, kp1, is1, sn1, hc, hm⟩ := r_ruled (rls := rls) (m := m) (pR := fun j => ra j 0) (ncF := ncF) (codeF := codeF) (nsF := nsF) (seF := seF) (ntF := ntF) (teF := teF) (stk := skF) (tps := tpF) (fc := o5) (ff := o6) (cr := ocr) (hb := hbr) (wl := hwl) (de := hde) (wo := hwo) (th := th) (tb := tb) (tr := tr) (tg := tg) (tw := tw) (ts := ts) (tk := tk) (sign := sign) (clause := clause) (clauses := clauses) (st := stk) (tp := tp) (wd := wd) (fo := fo) (wil := wil) (mov := mov) (bk := brk) (kept := kpt) (isF := isf) (sn := sth) (by omega) hI hL hBg hNo (fun j hj => (hrf j hj).1) (fun j hj => rEv (hrf j hj).2.2.2.1 (hrf j hj).2.2.2.2.1 (hrf j hj).2.2.2.2.2 (by omega)) (xs (i + 1))
  refine lv_aload_n hx hb dL_law_914 rfl (lv_at hl 2 rfl) ?_
  refine ld1 C hS hl hi dL_law_915 dL_law_916 dL_law_917 dL_law_918 dL_law_919 ?_
  have hob := oB_id (bs := bs) (m := m) (wR := fun j => cRu (ra j) (ry j) (ncF j) (codeF j) (nsF j) (seF j) (ntF j) (teF j) (skF j) (tpF j)) b7 b6 b8 (fun k hk => (hrf k hk).2.1)
  have hKT : va_K D vwCl (tLL (cy 0) ++ (tSt (cy 4) ++ (tW (cy 5) ++ (tH (cy 6) ++ (tO (cy 7) ++ (tW (cy 8) ++ (tLd ly ++ (List.range m).flatMap (fun j => tRu (ry j))))))))) s := kLL.app (kS4.app (kW5.app (kH.app (kO.app (kW8.app (kl.app (kFM k0 (fun j hj => (hrf j hj).2.2.1))))))))
  obtain ⟨q0, hq0⟩ := bW_at (N := N) (j := 0) (bs := bs) (by omega) (b0.trans (show cLL (ad 0) (cy 0) (ad 1 0) (ad 2 0) (ad 3 0) rls (nn m) (ad 4 0) ims pst (nn nx) (nn c) (ad 6 0) (ad 7 0) (ad 9 0) (ad 10 0) = _ :: _ from rfl))
  rw [← hob] at hP hD hq0
  refine mdX_i (As := [.int (xs (i + 1))]) (rest := []) S9 hKT hP hD hS hA (c11_ruled (l := l) (stk := skF) (tps := tpF) hN hm6 b0 b4 b5 g1 g2 bl (fun j hj => (hrf j hj).1) hc) (gdV mw_57_10 mw_57_11 mw_57_12 mw_1_2 mw_57_13) rfl rfl hd_f11_ruled ⟨Nat.le_of_ble_eq_true rfl, Nat.le_of_ble_eq_true rfl⟩ (ci := 11) (q0 := q0) rfl hq0 rfl hl.1 rfl (Nat.le_of_ble_eq_true rfl) dL_law_920 hf9 (fun kx H locs hP hD hS => ?_)
  obtain ⟨bc, hbc⟩ : ∃ X, X = oB bs m (cO (ad 7) (cy 7) o1 o2 o3 o4 fc1 ff1 o7 o8 o9 oa ob (ad 6 0) (ad 8 0) cr1) (cH (ad 6) (cy 6) hbk1 wl1 de1 wo1) (cW (ad 8) (cy 8) kx th1 tb1 tr1 tg1 tw1 ts1 tk1) (fun j => cRu (ra j) (ry j) (ncF j) (codeF j) (nsF j) (seF j) (ntF j) (teF j) (stk1 j) (tps1 j)) := ⟨_, rfl⟩
  replace hP : va_P D vwCl (bW N bc) H := by rw [hbc]; exact hP
  replace hD : va_D A (bW N bc) := by rw [hbc]; exact hD
  have t7 : bc 7 = cO (ad 7) (cy 7) o1 o2 o3 o4 fc1 ff1 o7 o8 o9 oa ob (ad 6 0) (ad 8 0) cr1 := by rw [hbc]; exact oB_7
  have t6 : bc 6 = cH (ad 6) (cy 6) hbk1 wl1 de1 wo1 := by rw [hbc]; exact oB_6
  have t8 : bc 8 = cW (ad 8) (cy 8) kx th1 tb1 tr1 tg1 tw1 ts1 tk1 := by rw [hbc]; exact oB_8
  have tR : ∀ j, j < m → bc (40 + j) = cRu (ra j) (ry j) (ncF j) (codeF j) (nsF j) (seF j) (ntF j) (teF j) (stk1 j) (tps1 j) := fun j hj => by rw [hbc]; exact oB_r hj
  have E1 : ∀ j, (j ≠ 7 ∧ j ≠ 6 ∧ j ≠ 8 ∧ ¬ (40 ≤ j ∧ j < 40 + m)) → bc j = bs j := fun j hj => by rw [hbc]; exact oB_ne hj.1 hj.2.1 hj.2.2.1 hj.2.2.2
  refine lv_aload_n hx hb dL_law_923 rfl (lv_at hl 1 rfl) ?_
  refine ld1 C hS hl hi dL_law_924 dL_law_925 dL_law_926 dL_law_927 dL_law_928 ?_
  obtain ⟨um, hum⟩ : ∃ X : va_W, X = (cM (ad 46) (cy 46) tape len (nn m) sign lg clause clauses rd nxt wrg num txt mde dep lns opn opd st1 tp1 wd1 S fo x wi1 mo1 bk1 w (nn c) kp1 bhr far que qud onw mvp mvk is1 sn1 drx im imF imX imM) := ⟨_, rfl⟩
  have bm : bc 46 = _ := (E1 46 (by omega)).trans b46
  obtain ⟨Lm, hLm⟩ : ∃ X : List (Nat × List (ClassId × FieldType) × va_W × va_W), X = [(46, tM (cy 46), bc 46, um)] := ⟨_, rfl⟩
  have hnm : (Lm.map Prod.fst).Nodup := by rw [hLm]; show ([46] : List Nat).Nodup; decide
  refine mbQ_i (As := [.int (xs (i + 1))]) (rest := [.int v]) Lm S9 k0 hP hD hS hA (c12_ruled (l := l) (D := D) (ad := (ad 46)) (cy := (cy 46)) (z_tape := tape) (z_taped := len) (z_rules := (nn m)) (z_sign := sign) (z_length := lg) (z_clause := clause) (z_clauses := clauses) (z_read := rd) (z_next := nxt) (z_wrong := wrg) (z_number := num) (z_text := txt) (z_made := mde) (z_deep := dep) (z_lines := lns) (z_open := opn) (z_opened := opd) (z_stack := stk) (z_top := tp) (z_word := wd) (z_said := S) (z_force := fo) (z_x := x) (z_will := wil) (z_moved := mov) (z_broke := brk) (z_wasSaid := w) (z_undone := (nn c)) (z_kept := kpt) (z_breakHour := bhr) (z_far := far) (z_queue := que) (z_queued := qud) (z_isOnWay := onw) (z_movePerson := mvp) (z_moveKind := mvk) (z_isFit := isf) (z_standThen := sth) (z_drawX := drx) (z_images := im) (z_imageForce := imF) (z_imageX := imX) (z_isMade := imM) (a1 := (xs (i + 1))) (o_ret := v) (o_stack := st1) (o_top := tp1) (o_word := wd1) (o_said := S) (o_force := fo) (o_will := wi1) (o_moved := mo1) (o_broke := bk1) (o_kept := kp1) (o_isFit := is1) (o_standThen := sn1) hm) hnm (by rw [hLm]; exact List.forall_mem_cons.mpr ⟨show 46 < N by omega, fun _ h9 => absurd h9 List.not_mem_nil⟩) (by rw [hLm]; exact List.forall_mem_cons.mpr ⟨kM, fun _ h9 => absurd h9 List.not_mem_nil⟩) (by rw [hLm]; exact List.forall_mem_cons.mpr ⟨rfl, fun _ h9 => absurd h9 List.not_mem_nil⟩) (by rw [hLm]; rfl) (by rw [hLm]; simp only [List.flatMap_cons, List.flatMap_nil, List.append_nil, List.append_assoc]; rw [bm]) (by rw [hLm]; simp only [List.flatMap_cons, List.flatMap_nil, List.append_nil, List.append_assoc]; rw [hum]) (gdV mw_58_20 mw_58_21 mw_58_22 mw_1_5 mw_58_23) rfl rfl hd_f12_ruled ⟨Nat.le_of_ble_eq_true rfl, Nat.le_of_ble_eq_true rfl⟩ (ci := 12) (q0 := 0) rfl rfl rfl hl.1 rfl (Nat.le_of_ble_eq_true rfl) dL_law_929 hf9 (fun H locs hP hD hS => ?_)
  obtain ⟨bn, hbn⟩ : ∃ X, X = bsetL bc Lm := ⟨_, rfl⟩
  rw [← hbn] at hP hD
  have tm : bn 46 = um := by rw [hbn]; exact bsetL_at (x := (46, tM (cy 46), bc 46, um)) hnm (by rw [hLm]; exact List.mem_of_getElem? (i := 0) rfl)
  have E2 : ∀ j, j ≠ 46 → bn j = bc j := by
    intro j hj
    rw [hbn]
    exact bsetL_ne (by rw [hLm]; show j ∉ ([46] : List Nat); simp only [List.mem_cons, List.not_mem_nil, or_false]; exact hj)
  have E : ∀ j, (j ≠ 46 ∧ j ≠ 7 ∧ j ≠ 6 ∧ j ≠ 8 ∧ ¬ (40 ≤ j ∧ j < 40 + m)) → bn j = bs j := fun j hj => (E2 j hj.1).trans (E1 j hj.2)
  refine lv_icmp_eq (tgt := 1115) hx hb dL_law_932 rfl (fun _ => ?_) (fun c8 => absurd rfl c8)
  refine W.widen (k := cells + 8) (n := slots + 13200) (by omega) (by omega) ?_
  have EL : ∀ j, 47 ≤ j → j < N → bn j = bs j := fun j h1 h2 => E j (by omega)
  exact kk N bn H locs ⟨m, c, nx, tn, R, P, (lh 0), rls, bytes, len, fo, x, notes, nh, nr, nm, hour, broken, rung, grip, want, slips, worn, tape, sign, clause, clauses, S, w, im, imF, imX, imM, hN, (E 0 (by omega)).trans b0, hBT.congr (E 1 (by omega)), (E 2 (by omega)).trans b2, hBRR.congr (E 3 (by omega)), hBN.congr (E 4 (by omega)), (E 5 (by omega)).trans b5, ⟨_, _, _, _, (E2 6 (by omega)).trans t6⟩, ⟨_, _, _, _, _, _, _, _, _, _, _, _, (E2 7 (by omega)).trans t7⟩, ⟨_, _, _, _, _, _, _, _, (E2 8 (by omega)).trans t8⟩, hBP.congr (E 9 (by omega)), hBS.congr (E 10 (by omega)), hB11.congr (E 11 (by omega)), hSc.congr (Nat.le_refl _) EL, hPs.congr (fun k hk => E _ (by omega)), hIm.congr (Nat.le_refl _) (Nat.le_refl _) (fun k hk => E _ (by omega)) EL, ⟨fun j hj => ⟨ra j, ry j, ncF j, codeF j, nsF j, seF j, ntF j, teF j, stk1 j, tps1 j, csF j, (hrf j hj).1, (E2 _ (by omega)).trans (tR j hj), (hrf j hj).2.2⟩, fun j h1 h2 => (E _ (by omega)).trans (hRu.2 j h1 h2)⟩, ⟨_, _, _, _, _, _, _, _, _, _, _, _, _, _, _, _, _, _, _, _, _, _, _, _, _, _, _, _, tm.trans hum⟩, hTP, hm6, hof, hox⟩ hP hD hS

set_option maxHeartbeats 8000000 in
set_option maxRecDepth 100000 in
theorem k_look (C : Cx p m9 c9 s A D adK adV ad cy ims pst b L xs) (hi : i + 6 ≤ L) (T : Top D s ad cy ims pst N bs) (hP : va_P D vwCl (bW N bs) H) (hD : va_D A (bW N bs)) (hS : va_S A s.heap H locs) (hl : lv_has ls 4 (lvL ad b i)) (hf : cells + 8 ≤ 600000 ∧ slots + 13200 ≤ 7302250)
    (kk : ∀ (N : Nat) (bs : Nat → va_W) (H : Heap) (locs : List Loc), Top D s ad cy ims pst N bs → va_P D vwCl (bW N bs) H → va_D A (bW N bs) → va_S A s.heap H locs → W p l e room_1 s m9 #[.ref b] below meth c9 H locs (cells + 8) (slots + 13200) Q (F0 m9 1115 ls [])) : W p l e room_1 s m9 #[.ref b] below meth c9 H locs cells slots Q (F0 m9 937 ls []) := by
  obtain ⟨m, c, nx, tn, R, P, A0, rls, bytes, len, fo, x, notes, nh, nr, nm, hour, broken, rung, grip, want, slips, worn, tape, sign, clause, clauses, S, w, im, imF, imX, imM, hN, b0, hBT, b2, hBRR, hBN, b5, hBH, hBO, hB8, hBP, hBS, hB11, hSc, hPs, hIm, hRu, hBM, hTP, hm6, hof, hox⟩ := T
  obtain ⟨S9, hA, hbA, hbl, hX, hL9, hF, hE9, hV9⟩ := id C
  obtain ⟨hx, hb, hml, hown, hts⟩ := id S9
  obtain ⟨k0, kLL, kTp, kRR, kS4, kW5, kH, kO, kW8, kW11, kM, kIm, kPs⟩ := id hF
  have hf9 : cells ≤ room_1.cells ∧ slots ≤ room_1.slots := ⟨Nat.le_trans (Nat.le_add_right _ _) hf.1, Nat.le_trans (Nat.le_add_right _ _) hf.2⟩
  obtain ⟨lg, rd, nxt, wrg, num, txt, mde, dep, lns, opn, opd, stk, tp, wd, wil, mov, brk, kpt, bhr, far, que, qud, onw, mvp, mvk, isf, sth, drx, b46⟩ := id hBM
  obtain ⟨jl, lh, ly, ru, pe, sb, ro, str, wt, tol, srr, sww, g1, g2, g3, bl, kl, hI, hW, hL, hWT, hBg, hhr, hNo⟩ := id hSc
  subst g3
  obtain ⟨md, b4⟩ := id hBN
  obtain ⟨hbr, hwl, hde, hwo, b6⟩ := id hBH
  obtain ⟨o1, o2, o3, o4, o5, o6, o7, o8, o9, oa, ob, ocr, b7⟩ := id hBO
  obtain ⟨tq, th, tb, tr, tg, tw, ts, tk, b8⟩ := id hB8
  obtain ⟨ra, ry, ncF, codeF, nsF, seF, ntF, teF, skF, tpF, csF, hrf⟩ := hRu.fun (cy 0)
  obtain ⟨v, fc1, ff1, pr1, ma1, cr1, hbk1, wl1, de1, wo1, th1, tb1, tr1, tg1, tw1, ts1, tk1, stk1, tps1, st1, tp1, wd1, wi1, mo1, bk1, kp1, is1, sn1, hc, hm⟩ := r_look (rls := rls) (m := m) (pR := fun j => ra j 0) (ncF := ncF) (codeF := codeF) (nsF := nsF) (seF := seF) (ntF := ntF) (teF := teF) (stk := skF) (tps := tpF) (fc := o5) (ff := o6) (pr := o7) (ma := o8) (cr := ocr) (hb := hbr) (wl := hwl) (de := hde) (wo := hwo) (th := th) (tb := tb) (tr := tr) (tg := tg) (tw := tw) (ts := ts) (tk := tk) (sign := sign) (clause := clause) (clauses := clauses) (st := stk) (tp := tp) (wd := wd) (fo := fo) (wil := wil) (mov := mov) (bk := brk) (kept := kpt) (isF := isf) (sn := sth) (by omega) hI hL hBg hNo (fun j hj => (hrf j hj).1) (fun j hj => rEv (hrf j hj).2.2.2.1 (hrf j hj).2.2.2.2.1 (hrf j hj).2.2.2.2.2 (by omega)) (xs (i + 1)) (xs (i + 2))
  refine lv_aload_n hx hb dL_law_937 rfl (lv_at hl 2 rfl) ?_
  refine ld1 C hS hl hi dL_law_938 dL_law_939 dL_law_940 dL_law_941 dL_law_942 ?_
  refine ld2 C hS hl hi dL_law_943 dL_law_944 dL_law_945 dL_law_946 dL_law_947 ?_
  have hob := oB_id (bs := bs) (m := m) (wR := fun j => cRu (ra j) (ry j) (ncF j) (codeF j) (nsF j) (seF j) (ntF j) (teF j) (skF j) (tpF j)) b7 b6 b8 (fun k hk => (hrf k hk).2.1)
  have hKT : va_K D vwCl (tLL (cy 0) ++ (tSt (cy 4) ++ (tW (cy 5) ++ (tH (cy 6) ++ (tO (cy 7) ++ (tW (cy 8) ++ (tLd ly ++ (List.range m).flatMap (fun j => tRu (ry j))))))))) s := kLL.app (kS4.app (kW5.app (kH.app (kO.app (kW8.app (kl.app (kFM k0 (fun j hj => (hrf j hj).2.2.1))))))))
  obtain ⟨q0, hq0⟩ := bW_at (N := N) (j := 0) (bs := bs) (by omega) (b0.trans (show cLL (ad 0) (cy 0) (ad 1 0) (ad 2 0) (ad 3 0) rls (nn m) (ad 4 0) ims pst (nn nx) (nn c) (ad 6 0) (ad 7 0) (ad 9 0) (ad 10 0) = _ :: _ from rfl))
  rw [← hob] at hP hD hq0
  refine mdX_i (As := [.int (xs (i + 1)), .int (xs (i + 2))]) (rest := []) S9 hKT hP hD hS hA (c11_look (l := l) (stk := skF) (tps := tpF) hN hm6 b0 b4 b5 g1 g2 bl (fun j hj => (hrf j hj).1) hc) (gdV mw_59_12 mw_59_13 mw_59_14 mw_1_2 mw_59_15) rfl rfl hd_f11_look ⟨Nat.le_of_ble_eq_true rfl, Nat.le_of_ble_eq_true rfl⟩ (ci := 11) (q0 := q0) rfl hq0 rfl hl.1 rfl (Nat.le_of_ble_eq_true rfl) dL_law_948 hf9 (fun kx H locs hP hD hS => ?_)
  obtain ⟨bc, hbc⟩ : ∃ X, X = oB bs m (cO (ad 7) (cy 7) o1 o2 o3 o4 fc1 ff1 pr1 ma1 o9 oa ob (ad 6 0) (ad 8 0) cr1) (cH (ad 6) (cy 6) hbk1 wl1 de1 wo1) (cW (ad 8) (cy 8) kx th1 tb1 tr1 tg1 tw1 ts1 tk1) (fun j => cRu (ra j) (ry j) (ncF j) (codeF j) (nsF j) (seF j) (ntF j) (teF j) (stk1 j) (tps1 j)) := ⟨_, rfl⟩
  replace hP : va_P D vwCl (bW N bc) H := by rw [hbc]; exact hP
  replace hD : va_D A (bW N bc) := by rw [hbc]; exact hD
  have t7 : bc 7 = cO (ad 7) (cy 7) o1 o2 o3 o4 fc1 ff1 pr1 ma1 o9 oa ob (ad 6 0) (ad 8 0) cr1 := by rw [hbc]; exact oB_7
  have t6 : bc 6 = cH (ad 6) (cy 6) hbk1 wl1 de1 wo1 := by rw [hbc]; exact oB_6
  have t8 : bc 8 = cW (ad 8) (cy 8) kx th1 tb1 tr1 tg1 tw1 ts1 tk1 := by rw [hbc]; exact oB_8
  have tR : ∀ j, j < m → bc (40 + j) = cRu (ra j) (ry j) (ncF j) (codeF j) (nsF j) (seF j) (ntF j) (teF j) (stk1 j) (tps1 j) := fun j hj => by rw [hbc]; exact oB_r hj
  have E1 : ∀ j, (j ≠ 7 ∧ j ≠ 6 ∧ j ≠ 8 ∧ ¬ (40 ≤ j ∧ j < 40 + m)) → bc j = bs j := fun j hj => by rw [hbc]; exact oB_ne hj.1 hj.2.1 hj.2.2.1 hj.2.2.2
  refine lv_aload_n hx hb dL_law_951 rfl (lv_at hl 1 rfl) ?_
  refine ld1 C hS hl hi dL_law_952 dL_law_953 dL_law_954 dL_law_955 dL_law_956 ?_
  refine ld2 C hS hl hi dL_law_957 dL_law_958 dL_law_959 dL_law_960 dL_law_961 ?_
  obtain ⟨um, hum⟩ : ∃ X : va_W, X = (cM (ad 46) (cy 46) tape len (nn m) sign lg clause clauses rd nxt wrg num txt mde dep lns opn opd st1 tp1 wd1 S fo x wi1 mo1 bk1 w (nn c) kp1 bhr far que qud onw mvp mvk is1 sn1 drx im imF imX imM) := ⟨_, rfl⟩
  have bm : bc 46 = _ := (E1 46 (by omega)).trans b46
  obtain ⟨Lm, hLm⟩ : ∃ X : List (Nat × List (ClassId × FieldType) × va_W × va_W), X = [(46, tM (cy 46), bc 46, um)] := ⟨_, rfl⟩
  have hnm : (Lm.map Prod.fst).Nodup := by rw [hLm]; show ([46] : List Nat).Nodup; decide
  refine mbQ_i (As := [.int (xs (i + 1)), .int (xs (i + 2))]) (rest := [.int v]) Lm S9 k0 hP hD hS hA (c12_look (l := l) (D := D) (ad := (ad 46)) (cy := (cy 46)) (z_tape := tape) (z_taped := len) (z_rules := (nn m)) (z_sign := sign) (z_length := lg) (z_clause := clause) (z_clauses := clauses) (z_read := rd) (z_next := nxt) (z_wrong := wrg) (z_number := num) (z_text := txt) (z_made := mde) (z_deep := dep) (z_lines := lns) (z_open := opn) (z_opened := opd) (z_stack := stk) (z_top := tp) (z_word := wd) (z_said := S) (z_force := fo) (z_x := x) (z_will := wil) (z_moved := mov) (z_broke := brk) (z_wasSaid := w) (z_undone := (nn c)) (z_kept := kpt) (z_breakHour := bhr) (z_far := far) (z_queue := que) (z_queued := qud) (z_isOnWay := onw) (z_movePerson := mvp) (z_moveKind := mvk) (z_isFit := isf) (z_standThen := sth) (z_drawX := drx) (z_images := im) (z_imageForce := imF) (z_imageX := imX) (z_isMade := imM) (a1 := (xs (i + 1))) (a2 := (xs (i + 2))) (o_ret := v) (o_stack := st1) (o_top := tp1) (o_word := wd1) (o_said := S) (o_force := fo) (o_will := wi1) (o_moved := mo1) (o_broke := bk1) (o_kept := kp1) (o_isFit := is1) (o_standThen := sn1) hm) hnm (by rw [hLm]; exact List.forall_mem_cons.mpr ⟨show 46 < N by omega, fun _ h9 => absurd h9 List.not_mem_nil⟩) (by rw [hLm]; exact List.forall_mem_cons.mpr ⟨kM, fun _ h9 => absurd h9 List.not_mem_nil⟩) (by rw [hLm]; exact List.forall_mem_cons.mpr ⟨rfl, fun _ h9 => absurd h9 List.not_mem_nil⟩) (by rw [hLm]; rfl) (by rw [hLm]; simp only [List.flatMap_cons, List.flatMap_nil, List.append_nil, List.append_assoc]; rw [bm]) (by rw [hLm]; simp only [List.flatMap_cons, List.flatMap_nil, List.append_nil, List.append_assoc]; rw [hum]) (gdV mw_60_4 mw_60_5 mw_60_6 mw_1_5 mw_60_7) rfl rfl hd_f12_look ⟨Nat.le_of_ble_eq_true rfl, Nat.le_of_ble_eq_true rfl⟩ (ci := 12) (q0 := 0) rfl rfl rfl hl.1 rfl (Nat.le_of_ble_eq_true rfl) dL_law_962 hf9 (fun H locs hP hD hS => ?_)
  obtain ⟨bn, hbn⟩ : ∃ X, X = bsetL bc Lm := ⟨_, rfl⟩
  rw [← hbn] at hP hD
  have tm : bn 46 = um := by rw [hbn]; exact bsetL_at (x := (46, tM (cy 46), bc 46, um)) hnm (by rw [hLm]; exact List.mem_of_getElem? (i := 0) rfl)
  have E2 : ∀ j, j ≠ 46 → bn j = bc j := by
    intro j hj
    rw [hbn]
    exact bsetL_ne (by rw [hLm]; show j ∉ ([46] : List Nat); simp only [List.mem_cons, List.not_mem_nil, or_false]; exact hj)
  have E : ∀ j, (j ≠ 46 ∧ j ≠ 7 ∧ j ≠ 6 ∧ j ≠ 8 ∧ ¬ (40 ≤ j ∧ j < 40 + m)) → bn j = bs j := fun j hj => (E2 j hj.1).trans (E1 j hj.2)
  refine lv_icmp_eq (tgt := 1115) hx hb dL_law_965 rfl (fun _ => ?_) (fun c8 => absurd rfl c8)
  refine W.widen (k := cells + 8) (n := slots + 13200) (by omega) (by omega) ?_
  have EL : ∀ j, 47 ≤ j → j < N → bn j = bs j := fun j h1 h2 => E j (by omega)
  exact kk N bn H locs ⟨m, c, nx, tn, R, P, (lh 0), rls, bytes, len, fo, x, notes, nh, nr, nm, hour, broken, rung, grip, want, slips, worn, tape, sign, clause, clauses, S, w, im, imF, imX, imM, hN, (E 0 (by omega)).trans b0, hBT.congr (E 1 (by omega)), (E 2 (by omega)).trans b2, hBRR.congr (E 3 (by omega)), hBN.congr (E 4 (by omega)), (E 5 (by omega)).trans b5, ⟨_, _, _, _, (E2 6 (by omega)).trans t6⟩, ⟨_, _, _, _, _, _, _, _, _, _, _, _, (E2 7 (by omega)).trans t7⟩, ⟨_, _, _, _, _, _, _, _, (E2 8 (by omega)).trans t8⟩, hBP.congr (E 9 (by omega)), hBS.congr (E 10 (by omega)), hB11.congr (E 11 (by omega)), hSc.congr (Nat.le_refl _) EL, hPs.congr (fun k hk => E _ (by omega)), hIm.congr (Nat.le_refl _) (Nat.le_refl _) (fun k hk => E _ (by omega)) EL, ⟨fun j hj => ⟨ra j, ry j, ncF j, codeF j, nsF j, seF j, ntF j, teF j, stk1 j, tps1 j, csF j, (hrf j hj).1, (E2 _ (by omega)).trans (tR j hj), (hrf j hj).2.2⟩, fun j h1 h2 => (E _ (by omega)).trans (hRu.2 j h1 h2)⟩, ⟨_, _, _, _, _, _, _, _, _, _, _, _, _, _, _, _, _, _, _, _, _, _, _, _, _, _, _, _, tm.trans hum⟩, hTP, hm6, hof, hox⟩ hP hD hS

end
