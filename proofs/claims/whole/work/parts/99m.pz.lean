/-! the law's cases: ladder, rule -/
theorem hd_f11_ladder : yX11_ladder.cls = RX11 ∧ yX11_ladder.cls ≠ "java/lang/invoke/MethodHandle" ∧ yX11_ladder.cls ≠ "java/lang/invoke/VarHandle" ∧ (parseMethodDescriptor yX11_ladder.desc).map (fun d => d.parameters.length) = some 0 := by decide +kernel
theorem hd_f11_rule : yX11_rule.cls = RX11 ∧ yX11_rule.cls ≠ "java/lang/invoke/MethodHandle" ∧ yX11_rule.cls ≠ "java/lang/invoke/VarHandle" ∧ (parseMethodDescriptor yX11_rule.desc).map (fun d => d.parameters.length) = some 0 := by decide +kernel
theorem bW_new {bs : Nat → va_W} {N : Nat} {ex : va_W} : bW (N + 1) (bset bs N ex) = bW N bs ++ ex := by
  rw [bW_succ, bset_at]
  refine congrArg (fun w => w ++ ex) ?_
  exact fm_congr _ (fun j hj => bset_ne (by have := List.mem_range.mp hj; omega))
theorem RuM.frame {cs : CLS} {sign clause clauses sign1 clause1 clauses1 : Nat → Int32} {j k : Nat} (hOK : RuOK cs) (h : RuM cs sign clause clauses j) (hj : j ≠ k) (f1 : FR k sign sign1) (f2 : FRc k clause clauses clause1 clauses1) : RuM cs sign1 clause1 clauses1 j := by
  have h1 := hOK.1
  have h2 := hOK.2.1
  obtain ⟨a, b, c⟩ := h
  refine ⟨(f2.2 j hj).trans a, fun i hi => (f1 _ (by omega)).trans (b i hi), fun i hi => ?_⟩
  obtain ⟨c1, c2, c3, c4⟩ := c i hi
  exact ⟨(f2.1 _ (by omega)).trans c1, (f2.1 _ (by omega)).trans c2, (f2.1 _ (by omega)).trans c3, (f2.1 _ (by omega)).trans c4⟩
theorem BRu.frame {D : va_G} {s : State} {bs bs' : Nat → va_W} {m k : Nat} {rls : Nat → Option Nat} {sign clause clauses sign1 clause1 clauses1 : Nat → Int32} (h : BRu D s bs m rls sign clause clauses) (hk : m ≤ k) (f1 : FR k sign sign1) (f2 : FRc k clause clauses clause1 clauses1) (hm : m ≤ 6) (e : ∀ j, j < 6 → bs' (40 + j) = bs (40 + j)) : BRu D s bs' m rls sign1 clause1 clauses1 := by
  refine ⟨fun j hj => ?_, fun j h1 h2 => (e j h2).trans (h.2 j h1 h2)⟩
  obtain ⟨a1, a2, a3, a4, a5, a6, a7, a8, a9, b1, b2, c1, c2, c3, c4, c5, c6⟩ := h.1 j hj
  exact ⟨a1, a2, a3, a4, a5, a6, a7, a8, a9, b1, b2, c1, (e j (by omega)).trans c2, c3, c4, c5, c6.frame c4 (by omega) f1 f2⟩
theorem BRu.add {D : va_G} {s : State} {bs bs' : Nat → va_W} {m : Nat} {rls : Nat → Option Nat} {sign clause clauses sign1 clause1 clauses1 : Nat → Int32} {rh : Nat → Nat} {ry : Nat → ClassId} {nc ns nt : Nat} {code se te : Nat → Int32} {stk : Nat → Int64} {tp : Int32} {cs : CLS} (h : BRu D s bs m rls sign clause clauses) (hm : m < 6) (f1 : FR m sign sign1) (f2 : FRc m clause clauses clause1 clauses1) (e : ∀ j, j < 6 → j ≠ m → bs' (40 + j) = bs (40 + j)) (e1 : bs' (40 + m) = cRu rh ry nc code ns se nt te stk tp) (k1 : va_K D vwCl (tRu ry) s) (r2 : RuOK cs) (r3 : RuC cs nc code ns se nt te) (r4 : RuM cs sign1 clause1 clauses1 m) : BRu D s bs' (m + 1) (va_up rls m (some (rh 0))) sign1 clause1 clauses1 := by
  refine ⟨fun j hj => ?_, fun j h1 h2 => (e j h2 (by omega)).trans (h.2 j (by omega) h2)⟩
  by_cases h9 : j = m
  · subst h9
    exact ⟨rh, ry, nc, code, ns, se, nt, te, stk, tp, cs, va_up_self _ _ _, e1, k1, r2, r3, r4⟩
  · obtain ⟨a1, a2, a3, a4, a5, a6, a7, a8, a9, b1, b2, c1, c2, c3, c4, c5, c6⟩ := h.1 j (by omega)
    exact ⟨a1, a2, a3, a4, a5, a6, a7, a8, a9, b1, b2, (va_up_ne _ _ h9).trans c1, (e j (by omega) h9).trans c2, c3, c4, c5, c6.frame c4 h9 f1 f2⟩
section
variable {p : Program} {l : Launch} {e : Env} {s : State} {m9 : MethodId} {below : List Frame} {meth : Method} {c9 : Code} {Q : State → Prop} {D : va_G} {A : Nat → Prop} {adK adV : Nat → Nat} {ad : Nat → Nat → Nat} {cy : Nat → Nat → ClassId} {ims pst : Nat → Option Nat} {b L i N : Nat} {xs : Nat → Int32} {bs : Nat → va_W} {H : Heap} {locs : List Loc} {cells slots : Nat} {ls : Array Slot}
set_option maxHeartbeats 8000000 in
set_option maxRecDepth 100000 in
theorem k_ladder (C : Cx p m9 c9 s A D adK adV ad cy ims pst b L xs) (hi : i + 6 ≤ L) (T : Top D s ad cy ims pst N bs) (hP : va_P D vwCl (bW N bs) H) (hD : va_D A (bW N bs)) (hS : va_S A s.heap H locs) (hl : lv_has ls 4 (lvL ad b i)) (hf : cells + 8 ≤ 600000 ∧ slots + 13200 ≤ 7302250)
    (kk : ∀ (N : Nat) (bs : Nat → va_W) (H : Heap) (locs : List Loc), Top D s ad cy ims pst N bs → va_P D vwCl (bW N bs) H → va_D A (bW N bs) → va_S A s.heap H locs → W p l e room_1 s m9 #[.ref b] below meth c9 H locs (cells + 8) (slots + 13200) Q (F0 m9 1115 ls [])) : W p l e room_1 s m9 #[.ref b] below meth c9 H locs cells slots Q (F0 m9 266 ls []) := by
  obtain ⟨m, c, nx, tn, R, P, A0, rls, bytes, len, fo, x, notes, nh, nr, nm, hour, broken, rung, grip, want, slips, worn, tape, sign, clause, clauses, S, w, im, imF, imX, imM, hN, b0, hBT, b2, hBRR, hBN, b5, hBH, hBO, hB8, hBP, hBS, hB11, hSc, hPs, hIm, hRu, hBM, hTP, hm6, hof, hox⟩ := T
  obtain ⟨S9, hA, hbA, hbl, hX, hL9, hF, hE9, hV9⟩ := id C
  obtain ⟨hx, hb, hml, hown, hts⟩ := id S9
  obtain ⟨k0, kLL, kTp, kRR, kS4, kW5, kH, kO, kW8, kW11, kM, kIm, kPs⟩ := id hF
  have hf9 : cells ≤ room_1.cells ∧ slots ≤ room_1.slots := ⟨Nat.le_trans (Nat.le_add_right _ _) hf.1, Nat.le_trans (Nat.le_add_right _ _) hf.2⟩
  obtain ⟨lg, rd, nxt, wrg, num, txt, mde, dep, lns, opn, opd, stk, tp, wd, wil, mov, brk, kpt, bhr, far, que, qud, onw, mvp, mvk, isf, sth, drx, b46⟩ := id hBM
  have hle := hTP.2.1
  subst hle
  obtain ⟨kd, sg, ft, sa, sp, b1⟩ := id hBT
  obtain ⟨md, b4⟩ := id hBN
  obtain ⟨z13, hf13, hz13⟩ := fill9 2
  obtain ⟨z14, hf14, hz14⟩ := fill9 200
  obtain ⟨lg1, rd1, nx1, wr1, nu1, ma1, li1, hcase⟩ := r_ladder (kind := kd) (sign := sg) (fault := ft) (start := sa) (stop := sp) (room := z13) (strength := z14) (weight := (fun _ => (0 : Int32))) (told := (fun _ => (0 : Int32))) (srg := (fun _ => (0 : Int32))) (swt := (fun _ => (0 : Int32))) (nx := nxt) (wr := wrg) (nu := num) (tx := txt) (ma := mde) (de := dep) (li := lns) (opd := opd) (ud := nn c) (S := S) (sgn := sign) (len := lg) (cl := clause) (cls := clauses) (rdx := rd) (opn := opn) hTP.tx hz13 hz14 (fun p hp => ⟨rfl, rfl, rfl⟩)
  rcases hcase with ⟨k1, q1, st1, sp1, R1, P1, bb, ro1, tr1, w1, td1, sr1, sw1, S1, hc, hm, hR0, hI1, hL1, hB1, hWT1, h109, hBgW⟩ | ⟨w0, k1, q1, st1, sp1, ru1, pe1, sb1, ro1, tr1, w1, td1, sr1, sw1, hc, hm⟩
  · skip
    obtain ⟨rg1, gr1, wt1, sl1, wn1, hbg, hW1⟩ := hBgW hour broken rung grip want slips worn
    refine lv_aload_n hx hb dL_law_266 rfl (lv_at hl 2 rfl) ?_
    obtain ⟨Lo, hLo⟩ : ∃ X : List (Nat × List (ClassId × FieldType) × va_W × va_W), X = [(0, tLL (cy 0), bs 0, bs 0), (1, tTp (cy 1), bs 1, bs 1), (2, [], bs 2, bs 2), (4, tSt (cy 4), bs 4, bs 4), (5, tW (cy 5), bs 5, bs 5)] := ⟨_, rfl⟩
    have hmo : Lo.map Prod.fst = [0, 1, 2, 4, 5] := by rw [hLo]; rfl
    have hno : (Lo.map Prod.fst).Nodup := by rw [hmo]; simp only [List.nodup_cons, List.mem_cons, List.not_mem_nil, or_false, not_or, List.nodup_nil, and_true, not_false_eq_true] <;> omega
    have hlt : ∀ x ∈ Lo, x.1 < N := by rw [hLo]; exact List.forall_mem_cons.mpr ⟨show 0 < N by omega, List.forall_mem_cons.mpr ⟨show 1 < N by omega, List.forall_mem_cons.mpr ⟨show 2 < N by omega, List.forall_mem_cons.mpr ⟨show 4 < N by omega, List.forall_mem_cons.mpr ⟨show 5 < N by omega, fun _ h9 => absurd h9 List.not_mem_nil⟩⟩⟩⟩⟩
    have hkL : ∀ x ∈ Lo, va_K D vwCl x.2.1 s := by rw [hLo]; exact List.forall_mem_cons.mpr ⟨kLL, List.forall_mem_cons.mpr ⟨kTp, List.forall_mem_cons.mpr ⟨k0, List.forall_mem_cons.mpr ⟨kS4, List.forall_mem_cons.mpr ⟨kW5, fun _ h9 => absurd h9 List.not_mem_nil⟩⟩⟩⟩⟩
    have hbL : ∀ x ∈ Lo, bs x.1 = x.2.2.1 := by rw [hLo]; exact List.forall_mem_cons.mpr ⟨rfl, List.forall_mem_cons.mpr ⟨rfl, List.forall_mem_cons.mpr ⟨rfl, List.forall_mem_cons.mpr ⟨rfl, List.forall_mem_cons.mpr ⟨rfl, fun _ h9 => absurd h9 List.not_mem_nil⟩⟩⟩⟩⟩
    refine mbQ_T (As := []) (rest := []) Lo S9 k0 hP hD hS hA hE9 hV9 (c11_ladder_ok (l := l) (D := D) (adK := adK) (adV := adV) (aL := ad 0) (aT := ad 1) (aR := ad 2) (aN := ad 4) (aW := ad 5) (yL := cy 0) (yT := cy 1) (yR := cy 2) (yN := cy 4) (yW := cy 5) (zrr := ad 3 0) (zh := ad 6 0) (zo := ad 7 0) (zp := ad 9 0) (zs := ad 10 0) (ql := A0) (rls := rls) (im := ims) (pst := pst) (rc := nn m) (nx := nn nx) (pc0 := nn c) (len := nn tn) (kind := kd) (sign := sg) (fault := ft) (start := sa) (stop := sp) (fo := fo) (xx := x) (nt := notes) (md := md) (hour := hour) (broken := broken) (nh := nh) (nr := nr) (nm := nm) (rung := rung) (grip := grip) (want := want) (slips := slips) (worn := worn) (z13 := z13) (z14 := z14) (k1 := k1) (g1 := q1) (st1 := st1) (sp1 := sp1) (ro := ro1) (tr := tr1) (wt := w1) (td := td1) (sr := sr1) (sw := sw1) (f1 := 0) (ru := nn R1) (pe := nn P1) (sb := nn bb) (h2 := 0) (b2 := nn bb) (r2 := rg1) (g2 := gr1) (w2 := wt1) (s2 := sl1) (k2 := wn1) hf13 hf14 hc hbg) hno hlt hkL hbL (by rw [hLo]; rfl) (by rw [hLo]; simp only [List.flatMap_cons, List.flatMap_nil, List.append_nil, List.append_assoc, b0, b1, b2, b4, b5]) (gdV mw_9_5 mw_9_6 mw_9_7 mw_1_2 mw_9_8) rfl rfl hd_f11_ladder ⟨Nat.le_of_ble_eq_true rfl, Nat.le_of_ble_eq_true rfl⟩ (ci := 11) (q0 := 0) rfl rfl rfl hl.1 rfl (Nat.le_of_ble_eq_true rfl) dL_law_267 ⟨by show cells + 7 ≤ 600000; omega, by show slots + 43 ≤ 7302250; omega⟩ (fun wz tz rz H locs hZ hKz hcv hS => ?_)
    have hf8 : cells + 7 ≤ room_1.cells ∧ slots + 43 ≤ room_1.slots := ⟨by show cells + 7 ≤ 600000; omega, by show slots + 43 ≤ 7302250; omega⟩
    obtain ⟨qa, Lq, yq, rfl, rfl, rfl⟩ := hZ
    obtain ⟨u0, hu0⟩ : ∃ X : va_W, X = cLL (ad 0) (cy 0) (ad 1 0) (ad 2 0) (ad 3 0) rls (nn m) (ad 4 0) ims pst (nn nx) 0 (ad 6 0) (ad 7 0) (ad 9 0) (ad 10 0) := ⟨_, rfl⟩
    obtain ⟨u1, hu1⟩ : ∃ X : va_W, X = cTp (ad 1) (cy 1) bytes 0 k1 q1 0 st1 sp1 := ⟨_, rfl⟩
    obtain ⟨u4, hu4⟩ : ∃ X : va_W, X = cSt (ad 4) (cy 4) (ad 5 0) fo x 0 nh nr nm md := ⟨_, rfl⟩
    obtain ⟨u5, hu5⟩ : ∃ X : va_W, X = cW (ad 5) (cy 5) qa 0 (nn bb) rg1 gr1 wt1 sl1 wn1 := ⟨_, rfl⟩
    obtain ⟨Lc, hLc⟩ : ∃ X : List (Nat × List (ClassId × FieldType) × va_W × va_W), X = [(0, tLL (cy 0), bs 0, u0), (1, tTp (cy 1), bs 1, u1), (2, [], bs 2, bs 2), (4, tSt (cy 4), bs 4, u4), (5, tW (cy 5), bs 5, u5)] := ⟨_, rfl⟩
    have hmc : Lc.map Prod.fst = [0, 1, 2, 4, 5] := by rw [hLc]; rfl
    have hnd : (Lc.map Prod.fst).Nodup := by rw [hmc, ← hmo]; exact hno
    obtain ⟨bx, hbx⟩ : ∃ X, X = bsetL bs Lc := ⟨_, rfl⟩
    have t0 : bx 0 = u0 := by rw [hbx]; exact bsetL_at (x := (0, tLL (cy 0), bs 0, u0)) hnd (by rw [hLc]; exact List.mem_of_getElem? (i := 0) rfl)
    have t1 : bx 1 = u1 := by rw [hbx]; exact bsetL_at (x := (1, tTp (cy 1), bs 1, u1)) hnd (by rw [hLc]; exact List.mem_of_getElem? (i := 1) rfl)
    have t2 : bx 2 = bs 2 := by rw [hbx]; exact bsetL_at (x := (2, [], bs 2, bs 2)) hnd (by rw [hLc]; exact List.mem_of_getElem? (i := 2) rfl)
    have t3 : bx 4 = u4 := by rw [hbx]; exact bsetL_at (x := (4, tSt (cy 4), bs 4, u4)) hnd (by rw [hLc]; exact List.mem_of_getElem? (i := 3) rfl)
    have t4 : bx 5 = u5 := by rw [hbx]; exact bsetL_at (x := (5, tW (cy 5), bs 5, u5)) hnd (by rw [hLc]; exact List.mem_of_getElem? (i := 4) rfl)
    have E0 : ∀ j, (j ≠ 0 ∧ j ≠ 1 ∧ j ≠ 4 ∧ j ≠ 5) → bx j = bs j := by
      intro j hj
      by_cases q2 : j = 2
      · rw [q2]; exact t2
      rw [hbx]
      exact bsetL_ne (by rw [hmc]; simp only [List.mem_cons, List.not_mem_nil, or_false, not_or]; omega)
    obtain ⟨hP, hD⟩ := hcv bx (cLd (adOf qa Lq) yq (nn R1) (nn P1) (nn bb) ro1 tr1 w1 td1 sr1 sw1) (fun j h8 h9 => by rw [hbx]; exact bsetL_ne (by rw [hmc, ← hmo]; exact h9)) (by rw [hmo]; simp only [List.flatMap_cons, List.flatMap_nil, List.append_nil, List.append_assoc, t0, t1, t2, t3, t4, hu0, hu1, b2, hu4, hu5])
    rw [← bW_new] at hP hD
    obtain ⟨bc, hbc⟩ : ∃ X, X = bset bx N (cLd (adOf qa Lq) yq (nn R1) (nn P1) (nn bb) ro1 tr1 w1 td1 sr1 sw1) := ⟨_, rfl⟩
    rw [← hbc] at hP hD
    have tN : bc N = cLd (adOf qa Lq) yq (nn R1) (nn P1) (nn bb) ro1 tr1 w1 td1 sr1 sw1 := by rw [hbc]; exact bset_at
    have E1 : ∀ j, (j ≠ 0 ∧ j ≠ 1 ∧ j ≠ 4 ∧ j ≠ 5 ∧ j ≠ N) → bc j = bs j := fun j hj => by rw [hbc]; exact (bset_ne (by omega)).trans (E0 j (by omega))
    have t0 : bc 0 = u0 := by rw [hbc]; exact (bset_ne (by omega)).trans t0
    have t1 : bc 1 = u1 := by rw [hbc]; exact (bset_ne (by omega)).trans t1
    have t3 : bc 4 = u4 := by rw [hbc]; exact (bset_ne (by omega)).trans t3
    have t4 : bc 5 = u5 := by rw [hbc]; exact (bset_ne (by omega)).trans t4
    refine lv_aload_n hx hb dL_law_270 rfl (lv_at hl 1 rfl) ?_
    obtain ⟨um, hum⟩ : ∃ X : va_W, X = (cM (ad 46) (cy 46) tape 0 (nn m) sign lg1 clause clauses rd1 nx1 wr1 nu1 6 ma1 dep li1 opn opd stk tp wd S1 fo x wil mov brk w 0 kpt bhr far que qud onw mvp mvk isf sth drx im imF imX imM) := ⟨_, rfl⟩
    have bm : bc 46 = _ := (E1 46 (by omega)).trans b46
    obtain ⟨Lm, hLm⟩ : ∃ X : List (Nat × List (ClassId × FieldType) × va_W × va_W), X = [(46, tM (cy 46), bc 46, um)] := ⟨_, rfl⟩
    have hnm : (Lm.map Prod.fst).Nodup := by rw [hLm]; show ([46] : List Nat).Nodup; decide
    refine mbQ_i (As := []) (rest := [.int (nn P1)]) Lm S9 k0 hP hD hS hA (c12_ladder (l := l) (D := D) (ad := (ad 46)) (cy := (cy 46)) (z_tape := tape) (z_taped := (nn tn)) (z_rules := (nn m)) (z_sign := sign) (z_length := lg) (z_clause := clause) (z_clauses := clauses) (z_read := rd) (z_next := nxt) (z_wrong := wrg) (z_number := num) (z_text := txt) (z_made := mde) (z_deep := dep) (z_lines := lns) (z_open := opn) (z_opened := opd) (z_stack := stk) (z_top := tp) (z_word := wd) (z_said := S) (z_force := fo) (z_x := x) (z_will := wil) (z_moved := mov) (z_broke := brk) (z_wasSaid := w) (z_undone := (nn c)) (z_kept := kpt) (z_breakHour := bhr) (z_far := far) (z_queue := que) (z_queued := qud) (z_isOnWay := onw) (z_movePerson := mvp) (z_moveKind := mvk) (z_isFit := isf) (z_standThen := sth) (z_drawX := drx) (z_images := im) (z_imageForce := imF) (z_imageX := imX) (z_isMade := imM) (o_ret := (nn P1)) (o_taped := 0) (o_sign := sign) (o_length := lg1) (o_clause := clause) (o_clauses := clauses) (o_read := rd1) (o_next := nx1) (o_wrong := wr1) (o_number := nu1) (o_text := 6) (o_made := ma1) (o_deep := dep) (o_lines := li1) (o_open := opn) (o_opened := opd) (o_said := S1) (o_undone := 0) hm) hnm (by rw [hLm]; exact List.forall_mem_cons.mpr ⟨show 46 < N + 1 by omega, fun _ h9 => absurd h9 List.not_mem_nil⟩) (by rw [hLm]; exact List.forall_mem_cons.mpr ⟨kM, fun _ h9 => absurd h9 List.not_mem_nil⟩) (by rw [hLm]; exact List.forall_mem_cons.mpr ⟨rfl, fun _ h9 => absurd h9 List.not_mem_nil⟩) (by rw [hLm]; rfl) (by rw [hLm]; simp only [List.flatMap_cons, List.flatMap_nil, List.append_nil, List.append_assoc]; rw [bm]) (by rw [hLm]; simp only [List.flatMap_cons, List.flatMap_nil, List.append_nil, List.append_assoc]; rw [hum]) (gdV mw_15_16 mw_15_17 mw_15_18 mw_1_5 mw_15_19) rfl rfl hd_f12_ladder ⟨Nat.le_of_ble_eq_true rfl, Nat.le_of_ble_eq_true rfl⟩ (ci := 12) (q0 := 0) rfl rfl rfl hl.1 rfl (Nat.le_of_ble_eq_true rfl) dL_law_271 hf8 (fun H locs hP hD hS => ?_)
    obtain ⟨bn, hbn⟩ : ∃ X, X = bsetL bc Lm := ⟨_, rfl⟩
    rw [← hbn] at hP hD
    have tm : bn 46 = um := by rw [hbn]; exact bsetL_at (x := (46, tM (cy 46), bc 46, um)) hnm (by rw [hLm]; exact List.mem_of_getElem? (i := 0) rfl)
    have E2 : ∀ j, j ≠ 46 → bn j = bc j := by
      intro j hj
      rw [hbn]
      exact bsetL_ne (by rw [hLm]; show j ∉ ([46] : List Nat); simp only [List.mem_cons, List.not_mem_nil, or_false]; exact hj)
    have E : ∀ j, (j ≠ 46 ∧ j ≠ 0 ∧ j ≠ 1 ∧ j ≠ 4 ∧ j ≠ 5 ∧ j ≠ N) → bn j = bs j := fun j hj => (E2 j (by omega)).trans (E1 j (by omega))
    have s0 : bn 0 = u0 := (E2 _ (by omega)).trans t0
    have s1 : bn 1 = u1 := (E2 _ (by omega)).trans t1
    have s3 : bn 4 = u4 := (E2 _ (by omega)).trans t3
    have s4 : bn 5 = u5 := (E2 _ (by omega)).trans t4
    have sN : bn N = cLd (adOf qa Lq) yq (nn R1) (nn P1) (nn bb) ro1 tr1 w1 td1 sr1 sw1 := (E2 N (by omega)).trans tN
    refine lv_icmp_eq (tgt := 1115) hx hb dL_law_274 rfl (fun _ => ?_) (fun c8 => absurd rfl c8)
    refine W.widen (k := cells + 8) (n := slots + 13200) (by omega) (by omega) ?_
    have EL : ∀ j, 47 ≤ j → j < N → bn j = bs j := fun j h1 h2 => E j (by omega)
    exact kk (N + 1) bn H locs ⟨m, 0, nx, 0, R1, P1, qa, rls, bytes, 0, fo, x, 0, nh, nr, nm, 0, (nn bb), rg1, gr1, wt1, sl1, wn1, tape, sign, clause, clauses, S1, w, im, imF, imX, imM, (show 46 < N + 1 by omega), (s0.trans hu0), ⟨_, _, _, _, _, (s1.trans hu1)⟩, (E 2 (by omega)).trans b2, hBRR.congr (E 3 (by omega)), ⟨_, (s3.trans hu4)⟩, (s4.trans hu5), hBH.congr (E 6 (by omega)), hBO.congr (E 7 (by omega)), hB8.congr (E 8 (by omega)), hBP.congr (E 9 (by omega)), hBS.congr (E 10 (by omega)), hB11.congr (E 11 (by omega)), ⟨N, adOf qa Lq, yq, nn R1, nn P1, nn bb, ro1, tr1, w1, td1, sr1, sw1, by omega, by omega, rfl, sN, hKz.sub [12, 13, 14, 15, 16, 17] rfl, hI1, hW1, hL1, hWT1, fun _ => hB1, ⟨0, by omega, rfl⟩, ⟨0, by omega, rfl, h109, fun i hi => absurd hi (Nat.not_lt_zero i)⟩⟩, hPs.none (fun k hk => E _ (by omega)), hIm.congr (Nat.le_refl _) (Nat.le_succ _) (fun k hk => E _ (by omega)) EL, hRu.congr (fun j hj => E _ (by omega)) hm6, ⟨_, _, _, _, _, _, _, _, _, _, _, _, _, _, _, _, _, _, _, _, _, _, _, _, _, _, _, _, tm.trans hum⟩, ⟨by omega, rfl, rfl, fun i hi => absurd hi (Nat.not_lt_zero i)⟩, hm6, hof, hox⟩ hP hD hS
  · skip
    refine lv_aload_n hx hb dL_law_266 rfl (lv_at hl 2 rfl) ?_
    obtain ⟨Lo, hLo⟩ : ∃ X : List (Nat × List (ClassId × FieldType) × va_W × va_W), X = [(0, tLL (cy 0), bs 0, bs 0), (1, tTp (cy 1), bs 1, bs 1), (2, [], bs 2, bs 2), (4, tSt (cy 4), bs 4, bs 4), (5, tW (cy 5), bs 5, bs 5)] := ⟨_, rfl⟩
    have hmo : Lo.map Prod.fst = [0, 1, 2, 4, 5] := by rw [hLo]; rfl
    have hno : (Lo.map Prod.fst).Nodup := by rw [hmo]; simp only [List.nodup_cons, List.mem_cons, List.not_mem_nil, or_false, not_or, List.nodup_nil, and_true, not_false_eq_true] <;> omega
    have hlt : ∀ x ∈ Lo, x.1 < N := by rw [hLo]; exact List.forall_mem_cons.mpr ⟨show 0 < N by omega, List.forall_mem_cons.mpr ⟨show 1 < N by omega, List.forall_mem_cons.mpr ⟨show 2 < N by omega, List.forall_mem_cons.mpr ⟨show 4 < N by omega, List.forall_mem_cons.mpr ⟨show 5 < N by omega, fun _ h9 => absurd h9 List.not_mem_nil⟩⟩⟩⟩⟩
    have hkL : ∀ x ∈ Lo, va_K D vwCl x.2.1 s := by rw [hLo]; exact List.forall_mem_cons.mpr ⟨kLL, List.forall_mem_cons.mpr ⟨kTp, List.forall_mem_cons.mpr ⟨k0, List.forall_mem_cons.mpr ⟨kS4, List.forall_mem_cons.mpr ⟨kW5, fun _ h9 => absurd h9 List.not_mem_nil⟩⟩⟩⟩⟩
    have hbL : ∀ x ∈ Lo, bs x.1 = x.2.2.1 := by rw [hLo]; exact List.forall_mem_cons.mpr ⟨rfl, List.forall_mem_cons.mpr ⟨rfl, List.forall_mem_cons.mpr ⟨rfl, List.forall_mem_cons.mpr ⟨rfl, List.forall_mem_cons.mpr ⟨rfl, fun _ h9 => absurd h9 List.not_mem_nil⟩⟩⟩⟩⟩
    refine mbQ_T (As := []) (rest := []) Lo S9 k0 hP hD hS hA hE9 hV9 (c11_ladder_bad (l := l) (D := D) (adK := adK) (adV := adV) (aL := ad 0) (aT := ad 1) (aR := ad 2) (aN := ad 4) (aW := ad 5) (yL := cy 0) (yT := cy 1) (yR := cy 2) (yN := cy 4) (yW := cy 5) (zrr := ad 3 0) (zh := ad 6 0) (zo := ad 7 0) (zp := ad 9 0) (zs := ad 10 0) (ql := A0) (rls := rls) (im := ims) (pst := pst) (rc := nn m) (nx := nn nx) (pc0 := nn c) (len := nn tn) (kind := kd) (sign := sg) (fault := ft) (start := sa) (stop := sp) (fo := fo) (xx := x) (nt := notes) (md := md) (hour := hour) (broken := broken) (nh := nh) (nr := nr) (nm := nm) (rung := rung) (grip := grip) (want := want) (slips := slips) (worn := worn) (z13 := z13) (z14 := z14) (k1 := k1) (g1 := q1) (st1 := st1) (sp1 := sp1) (ro := ro1) (tr := tr1) (wt := w1) (td := td1) (sr := sr1) (sw := sw1) (f1 := nn w0) (ru := ru1) (pe := pe1) (sb := sb1) hf13 hf14 hc) hno hlt hkL hbL (by rw [hLo]; rfl) (by rw [hLo]; simp only [List.flatMap_cons, List.flatMap_nil, List.append_nil, List.append_assoc, b0, b1, b2, b4, b5]) (gdV mw_9_5 mw_9_6 mw_9_7 mw_1_2 mw_9_8) rfl rfl hd_f11_ladder ⟨Nat.le_of_ble_eq_true rfl, Nat.le_of_ble_eq_true rfl⟩ (ci := 11) (q0 := 0) rfl rfl rfl hl.1 rfl (Nat.le_of_ble_eq_true rfl) dL_law_267 ⟨by show cells + 7 ≤ 600000; omega, by show slots + 43 ≤ 7302250; omega⟩ (fun wz tz rz H locs hZ hKz hcv hS => ?_)
    have hf8 : cells + 7 ≤ room_1.cells ∧ slots + 43 ≤ room_1.slots := ⟨by show cells + 7 ≤ 600000; omega, by show slots + 43 ≤ 7302250; omega⟩
    obtain ⟨qa, Lq, yq, rfl, rfl, rfl⟩ := hZ
    obtain ⟨u1, hu1⟩ : ∃ X : va_W, X = cTp (ad 1) (cy 1) bytes 0 k1 q1 (nn w0) st1 sp1 := ⟨_, rfl⟩
    obtain ⟨Lc, hLc⟩ : ∃ X : List (Nat × List (ClassId × FieldType) × va_W × va_W), X = [(0, tLL (cy 0), bs 0, bs 0), (1, tTp (cy 1), bs 1, u1), (2, [], bs 2, bs 2), (4, tSt (cy 4), bs 4, bs 4), (5, tW (cy 5), bs 5, bs 5)] := ⟨_, rfl⟩
    have hmc : Lc.map Prod.fst = [0, 1, 2, 4, 5] := by rw [hLc]; rfl
    have hnd : (Lc.map Prod.fst).Nodup := by rw [hmc, ← hmo]; exact hno
    obtain ⟨bx, hbx⟩ : ∃ X, X = bsetL bs Lc := ⟨_, rfl⟩
    have t0 : bx 0 = bs 0 := by rw [hbx]; exact bsetL_at (x := (0, tLL (cy 0), bs 0, bs 0)) hnd (by rw [hLc]; exact List.mem_of_getElem? (i := 0) rfl)
    have t1 : bx 1 = u1 := by rw [hbx]; exact bsetL_at (x := (1, tTp (cy 1), bs 1, u1)) hnd (by rw [hLc]; exact List.mem_of_getElem? (i := 1) rfl)
    have t2 : bx 2 = bs 2 := by rw [hbx]; exact bsetL_at (x := (2, [], bs 2, bs 2)) hnd (by rw [hLc]; exact List.mem_of_getElem? (i := 2) rfl)
    have t3 : bx 4 = bs 4 := by rw [hbx]; exact bsetL_at (x := (4, tSt (cy 4), bs 4, bs 4)) hnd (by rw [hLc]; exact List.mem_of_getElem? (i := 3) rfl)
    have t4 : bx 5 = bs 5 := by rw [hbx]; exact bsetL_at (x := (5, tW (cy 5), bs 5, bs 5)) hnd (by rw [hLc]; exact List.mem_of_getElem? (i := 4) rfl)
    have E0 : ∀ j, (j ≠ 1) → bx j = bs j := by
      intro j hj
      by_cases q0 : j = 0
      · rw [q0]; exact t0
      by_cases q2 : j = 2
      · rw [q2]; exact t2
      by_cases q3 : j = 4
      · rw [q3]; exact t3
      by_cases q4 : j = 5
      · rw [q4]; exact t4
      rw [hbx]
      exact bsetL_ne (by rw [hmc]; simp only [List.mem_cons, List.not_mem_nil, or_false, not_or]; omega)
    obtain ⟨hP, hD⟩ := hcv bx (cLd (adOf qa Lq) yq ru1 pe1 sb1 ro1 tr1 w1 td1 sr1 sw1) (fun j h8 h9 => by rw [hbx]; exact bsetL_ne (by rw [hmc, ← hmo]; exact h9)) (by rw [hmo]; simp only [List.flatMap_cons, List.flatMap_nil, List.append_nil, List.append_assoc, t0, t1, t2, t3, t4, b0, hu1, b2, b4, b5])
    rw [← bW_new] at hP hD
    obtain ⟨bc, hbc⟩ : ∃ X, X = bset bx N (cLd (adOf qa Lq) yq ru1 pe1 sb1 ro1 tr1 w1 td1 sr1 sw1) := ⟨_, rfl⟩
    rw [← hbc] at hP hD
    have tN : bc N = cLd (adOf qa Lq) yq ru1 pe1 sb1 ro1 tr1 w1 td1 sr1 sw1 := by rw [hbc]; exact bset_at
    have E1 : ∀ j, (j ≠ 1 ∧ j ≠ N) → bc j = bs j := fun j hj => by rw [hbc]; exact (bset_ne (by omega)).trans (E0 j (by omega))
    have t1 : bc 1 = u1 := by rw [hbc]; exact (bset_ne (by omega)).trans t1
    refine lv_aload_n hx hb dL_law_270 rfl (lv_at hl 1 rfl) ?_
    obtain ⟨um, hum⟩ : ∃ X : va_W, X = (cM (ad 46) (cy 46) tape 0 (nn m) sign lg1 clause clauses rd1 nx1 wr1 nu1 6 ma1 dep li1 opn opd stk tp wd S fo x wil mov brk w (nn c) kpt bhr far que qud onw mvp mvk isf sth drx im imF imX imM) := ⟨_, rfl⟩
    have bm : bc 46 = _ := (E1 46 (by omega)).trans b46
    obtain ⟨Lm, hLm⟩ : ∃ X : List (Nat × List (ClassId × FieldType) × va_W × va_W), X = [(46, tM (cy 46), bc 46, um)] := ⟨_, rfl⟩
    have hnm : (Lm.map Prod.fst).Nodup := by rw [hLm]; show ([46] : List Nat).Nodup; decide
    refine mbQ_i (As := []) (rest := [.int (-2 - nn w0)]) Lm S9 k0 hP hD hS hA (c12_ladder (l := l) (D := D) (ad := (ad 46)) (cy := (cy 46)) (z_tape := tape) (z_taped := (nn tn)) (z_rules := (nn m)) (z_sign := sign) (z_length := lg) (z_clause := clause) (z_clauses := clauses) (z_read := rd) (z_next := nxt) (z_wrong := wrg) (z_number := num) (z_text := txt) (z_made := mde) (z_deep := dep) (z_lines := lns) (z_open := opn) (z_opened := opd) (z_stack := stk) (z_top := tp) (z_word := wd) (z_said := S) (z_force := fo) (z_x := x) (z_will := wil) (z_moved := mov) (z_broke := brk) (z_wasSaid := w) (z_undone := (nn c)) (z_kept := kpt) (z_breakHour := bhr) (z_far := far) (z_queue := que) (z_queued := qud) (z_isOnWay := onw) (z_movePerson := mvp) (z_moveKind := mvk) (z_isFit := isf) (z_standThen := sth) (z_drawX := drx) (z_images := im) (z_imageForce := imF) (z_imageX := imX) (z_isMade := imM) (o_ret := (-2 - nn w0)) (o_taped := 0) (o_sign := sign) (o_length := lg1) (o_clause := clause) (o_clauses := clauses) (o_read := rd1) (o_next := nx1) (o_wrong := wr1) (o_number := nu1) (o_text := 6) (o_made := ma1) (o_deep := dep) (o_lines := li1) (o_open := opn) (o_opened := opd) (o_said := S) (o_undone := (nn c)) hm) hnm (by rw [hLm]; exact List.forall_mem_cons.mpr ⟨show 46 < N + 1 by omega, fun _ h9 => absurd h9 List.not_mem_nil⟩) (by rw [hLm]; exact List.forall_mem_cons.mpr ⟨kM, fun _ h9 => absurd h9 List.not_mem_nil⟩) (by rw [hLm]; exact List.forall_mem_cons.mpr ⟨rfl, fun _ h9 => absurd h9 List.not_mem_nil⟩) (by rw [hLm]; rfl) (by rw [hLm]; simp only [List.flatMap_cons, List.flatMap_nil, List.append_nil, List.append_assoc]; rw [bm]) (by rw [hLm]; simp only [List.flatMap_cons, List.flatMap_nil, List.append_nil, List.append_assoc]; rw [hum]) (gdV mw_15_16 mw_15_17 mw_15_18 mw_1_5 mw_15_19) rfl rfl hd_f12_ladder ⟨Nat.le_of_ble_eq_true rfl, Nat.le_of_ble_eq_true rfl⟩ (ci := 12) (q0 := 0) rfl rfl rfl hl.1 rfl (Nat.le_of_ble_eq_true rfl) dL_law_271 hf8 (fun H locs hP hD hS => ?_)
    obtain ⟨bn, hbn⟩ : ∃ X, X = bsetL bc Lm := ⟨_, rfl⟩
    rw [← hbn] at hP hD
    have tm : bn 46 = um := by rw [hbn]; exact bsetL_at (x := (46, tM (cy 46), bc 46, um)) hnm (by rw [hLm]; exact List.mem_of_getElem? (i := 0) rfl)
    have E2 : ∀ j, j ≠ 46 → bn j = bc j := by
      intro j hj
      rw [hbn]
      exact bsetL_ne (by rw [hLm]; show j ∉ ([46] : List Nat); simp only [List.mem_cons, List.not_mem_nil, or_false]; exact hj)
    have E : ∀ j, (j ≠ 46 ∧ j ≠ 1 ∧ j ≠ N) → bn j = bs j := fun j hj => (E2 j (by omega)).trans (E1 j (by omega))
    have s1 : bn 1 = u1 := (E2 _ (by omega)).trans t1
    refine lv_icmp_eq (tgt := 1115) hx hb dL_law_274 rfl (fun _ => ?_) (fun c8 => absurd rfl c8)
    refine W.widen (k := cells + 8) (n := slots + 13200) (by omega) (by omega) ?_
    have EL : ∀ j, 47 ≤ j → j < N → bn j = bs j := fun j h1 h2 => E j (by omega)
    exact kk (N + 1) bn H locs ⟨m, c, nx, 0, R, P, A0, rls, bytes, 0, fo, x, notes, nh, nr, nm, hour, broken, rung, grip, want, slips, worn, tape, sign, clause, clauses, S, w, im, imF, imX, imM, (show 46 < N + 1 by omega), (E 0 (by omega)).trans b0, ⟨_, _, _, _, _, (s1.trans hu1)⟩, (E 2 (by omega)).trans b2, hBRR.congr (E 3 (by omega)), hBN.congr (E 4 (by omega)), (E 5 (by omega)).trans b5, hBH.congr (E 6 (by omega)), hBO.congr (E 7 (by omega)), hB8.congr (E 8 (by omega)), hBP.congr (E 9 (by omega)), hBS.congr (E 10 (by omega)), hB11.congr (E 11 (by omega)), hSc.congr (Nat.le_succ _) EL, hPs.congr (fun k hk => E _ (by omega)), hIm.congr (Nat.le_refl _) (Nat.le_succ _) (fun k hk => E _ (by omega)) EL, hRu.congr (fun j hj => E _ (by omega)) hm6, ⟨_, _, _, _, _, _, _, _, _, _, _, _, _, _, _, _, _, _, _, _, _, _, _, _, _, _, _, _, tm.trans hum⟩, ⟨by omega, rfl, rfl, fun i hi => absurd hi (Nat.not_lt_zero i)⟩, hm6, hof, hox⟩ hP hD hS

set_option maxHeartbeats 8000000 in
set_option maxRecDepth 100000 in
theorem k_rule (C : Cx p m9 c9 s A D adK adV ad cy ims pst b L xs) (hi : i + 6 ≤ L) (T : Top D s ad cy ims pst N bs) (hP : va_P D vwCl (bW N bs) H) (hD : va_D A (bW N bs)) (hS : va_S A s.heap H locs) (hl : lv_has ls 4 (lvL ad b i)) (hf : cells + 8 ≤ 600000 ∧ slots + 13200 ≤ 7302250)
    (kk : ∀ (N : Nat) (bs : Nat → va_W) (H : Heap) (locs : List Loc), Top D s ad cy ims pst N bs → va_P D vwCl (bW N bs) H → va_D A (bW N bs) → va_S A s.heap H locs → W p l e room_1 s m9 #[.ref b] below meth c9 H locs (cells + 8) (slots + 13200) Q (F0 m9 1115 ls [])) : W p l e room_1 s m9 #[.ref b] below meth c9 H locs cells slots Q (F0 m9 279 ls []) := by
  obtain ⟨m, c, nx, tn, R, P, A0, rls, bytes, len, fo, x, notes, nh, nr, nm, hour, broken, rung, grip, want, slips, worn, tape, sign, clause, clauses, S, w, im, imF, imX, imM, hN, b0, hBT, b2, hBRR, hBN, b5, hBH, hBO, hB8, hBP, hBS, hB11, hSc, hPs, hIm, hRu, hBM, hTP, hm6, hof, hox⟩ := T
  obtain ⟨S9, hA, hbA, hbl, hX, hL9, hF, hE9, hV9⟩ := id C
  obtain ⟨hx, hb, hml, hown, hts⟩ := id S9
  obtain ⟨k0, kLL, kTp, kRR, kS4, kW5, kH, kO, kW8, kW11, kM, kIm, kPs⟩ := id hF
  have hf9 : cells ≤ room_1.cells ∧ slots ≤ room_1.slots := ⟨Nat.le_trans (Nat.le_add_right _ _) hf.1, Nat.le_trans (Nat.le_add_right _ _) hf.2⟩
  obtain ⟨lg, rd, nxt, wrg, num, txt, mde, dep, lns, opn, opd, stk, tp, wd, wil, mov, brk, kpt, bhr, far, que, qud, onw, mvp, mvk, isf, sth, drx, b46⟩ := id hBM
  have hle := hTP.2.1
  subst hle
  obtain ⟨kd, sg, ft, sa, sp, b1⟩ := id hBT
  obtain ⟨md, b4⟩ := id hBN
  obtain ⟨co3, se3, te3, sz3, cn3, vl3, b3⟩ := id hBRR
  rcases Nat.lt_or_eq_of_le hm6 with hm | rfl
  · skip
    obtain ⟨sgn1, lg1, cl1, cls1, nx1, wr1, nu1, ma1, de1, li1, opn1, od1, hFR, hFRc, hcase⟩ := r_rule (kind := kd) (sign := sg) (fault := ft) (start := sa) (stop := sp) (size := sz3) (cn := cn3) (vals := vl3) (nx := nxt) (wr := wrg) (nu := num) (tx := txt) (ma := mde) (de := dep) (li := lns) (od := opd) (code := co3) (sumEnd := se3) (testEnd := te3) (sgn := sign) (len := lg) (clause := clause) (clauses := clauses) (rd := rd) (opn := opn) hm hTP.tx
    rcases hcase with ⟨cs, v1, k1, q1, st1, sp1, co1, se1, te1, hc, hmm, hOK, hRM, hcd, hse⟩ | ⟨w0, sz1, cn1, v1, k1, q1, st1, sp1, co1, se1, te1, hc, hmm⟩
    · skip
      have br0 := hRu.2 m (Nat.le_refl _) hm
      refine lv_aload_n hx hb dL_law_279 rfl (lv_at hl 2 rfl) ?_
      obtain ⟨Lo, hLo⟩ : ∃ X : List (Nat × List (ClassId × FieldType) × va_W × va_W), X = [(0, tLL (cy 0), bs 0, bs 0), (1, tTp (cy 1), bs 1, bs 1), (3, tRR (cy 3), bs 3, bs 3), ((40 + m), [], bs (40 + m), bs (40 + m))] := ⟨_, rfl⟩
      have hmo : Lo.map Prod.fst = [0, 1, 3, (40 + m)] := by rw [hLo]; rfl
      have hno : (Lo.map Prod.fst).Nodup := by rw [hmo]; simp only [List.nodup_cons, List.mem_cons, List.not_mem_nil, or_false, not_or, List.nodup_nil, and_true, not_false_eq_true] <;> omega
      have hlt : ∀ x ∈ Lo, x.1 < N := by rw [hLo]; exact List.forall_mem_cons.mpr ⟨show 0 < N by omega, List.forall_mem_cons.mpr ⟨show 1 < N by omega, List.forall_mem_cons.mpr ⟨show 3 < N by omega, List.forall_mem_cons.mpr ⟨show (40 + m) < N by omega, fun _ h9 => absurd h9 List.not_mem_nil⟩⟩⟩⟩
      have hkL : ∀ x ∈ Lo, va_K D vwCl x.2.1 s := by rw [hLo]; exact List.forall_mem_cons.mpr ⟨kLL, List.forall_mem_cons.mpr ⟨kTp, List.forall_mem_cons.mpr ⟨kRR, List.forall_mem_cons.mpr ⟨k0, fun _ h9 => absurd h9 List.not_mem_nil⟩⟩⟩⟩
      have hbL : ∀ x ∈ Lo, bs x.1 = x.2.2.1 := by rw [hLo]; exact List.forall_mem_cons.mpr ⟨rfl, List.forall_mem_cons.mpr ⟨rfl, List.forall_mem_cons.mpr ⟨rfl, List.forall_mem_cons.mpr ⟨rfl, fun _ h9 => absurd h9 List.not_mem_nil⟩⟩⟩⟩
      refine mbQ_T (As := []) (rest := []) Lo S9 k0 hP hD hS hA hE9 hV9 (c11_rule_ok (l := l) (D := D) (adK := adK) (adV := adV) (aL := ad 0) (aT := ad 1) (aR := ad 3) (yL := cy 0) (yT := cy 1) (yR := cy 3) (zlr := ad 2 0) (zn := ad 4 0) (zh := ad 6 0) (zo := ad 7 0) (zp := ad 9 0) (zs := ad 10 0) (rls := rls) (im := ims) (pst := pst) (nx := nn nx) (pc0 := nn c) (len := nn tn) (kind := kd) (sign := sg) (fault := ft) (start := sa) (stop := sp) (size := sz3) (cn := cn3) (vals := vl3) (by9 := bytes) (code := co3) (sumEnd := se3) (testEnd := te3) (u1 := v1) (k1 := k1) (g1 := q1) (st1 := st1) (sp1 := sp1) (code1 := co1) (sumEnd1 := se1) (testEnd1 := te1) (k := m) (f1 := 0) (sz := (flt cs).length) (nc := cs.length) hm hOK.2.1 hOK.1 hc) hno hlt hkL hbL (by rw [hLo]; rfl) (by rw [hLo]; simp only [List.flatMap_cons, List.flatMap_nil, List.append_nil, List.append_assoc, b0, b1, b3, br0]) (gdV mw_22_16 mw_22_17 mw_22_18 mw_1_2 mw_22_19) rfl rfl hd_f11_rule ⟨Nat.le_of_ble_eq_true rfl, Nat.le_of_ble_eq_true rfl⟩ (ci := 11) (q0 := 0) rfl rfl rfl hl.1 rfl (Nat.le_of_ble_eq_true rfl) dL_law_280 ⟨by show cells + 5 ≤ 600000; omega, by show slots + 1269 ≤ 7302250; omega⟩ (fun wz tz rz H locs hZ hKz hcv hS => ?_)
      have hf8 : cells + 5 ≤ room_1.cells ∧ slots + 1269 ≤ room_1.slots := ⟨by show cells + 5 ≤ 600000; omega, by show slots + 1269 ≤ 7302250; omega⟩
      obtain ⟨qa, Lq, yq, c1, c2, c3, rfl, rfl, rfl, hc1, hc2, hc3⟩ := hZ
      obtain ⟨u0, hu0⟩ : ∃ X : va_W, X = cLL (ad 0) (cy 0) (ad 1 0) (ad 2 0) (ad 3 0) (va_up rls m (some qa)) (nn (m + 1)) (ad 4 0) ims pst (nn nx) (nn c) (ad 6 0) (ad 7 0) (ad 9 0) (ad 10 0) := ⟨_, rfl⟩
      obtain ⟨u1, hu1⟩ : ∃ X : va_W, X = cTp (ad 1) (cy 1) bytes 0 k1 q1 0 st1 sp1 := ⟨_, rfl⟩
      obtain ⟨u3, hu3⟩ : ∃ X : va_W, X = cRR (ad 3) (cy 3) (ad 1 0) co1 se1 te1 (nn (flt cs).length) (nn cs.length) v1 := ⟨_, rfl⟩
      obtain ⟨u40m, hu40m⟩ : ∃ X : va_W, X = cRu (adOf qa Lq) yq (flt cs).length c1 cs.length c2 cs.length c3 (fun _ => (0 : Int64)) 0 := ⟨_, rfl⟩
      obtain ⟨Lc, hLc⟩ : ∃ X : List (Nat × List (ClassId × FieldType) × va_W × va_W), X = [(0, tLL (cy 0), bs 0, u0), (1, tTp (cy 1), bs 1, u1), (3, tRR (cy 3), bs 3, u3), ((40 + m), [], bs (40 + m), u40m)] := ⟨_, rfl⟩
      have hmc : Lc.map Prod.fst = [0, 1, 3, (40 + m)] := by rw [hLc]; rfl
      have hnd : (Lc.map Prod.fst).Nodup := by rw [hmc, ← hmo]; exact hno
      obtain ⟨bx, hbx⟩ : ∃ X, X = bsetL bs Lc := ⟨_, rfl⟩
      have t0 : bx 0 = u0 := by rw [hbx]; exact bsetL_at (x := (0, tLL (cy 0), bs 0, u0)) hnd (by rw [hLc]; exact List.mem_of_getElem? (i := 0) rfl)
      have t1 : bx 1 = u1 := by rw [hbx]; exact bsetL_at (x := (1, tTp (cy 1), bs 1, u1)) hnd (by rw [hLc]; exact List.mem_of_getElem? (i := 1) rfl)
      have t2 : bx 3 = u3 := by rw [hbx]; exact bsetL_at (x := (3, tRR (cy 3), bs 3, u3)) hnd (by rw [hLc]; exact List.mem_of_getElem? (i := 2) rfl)
      have t3 : bx (40 + m) = u40m := by rw [hbx]; exact bsetL_at (x := ((40 + m), [], bs (40 + m), u40m)) hnd (by rw [hLc]; exact List.mem_of_getElem? (i := 3) rfl)
      have E0 : ∀ j, (j ≠ 0 ∧ j ≠ 1 ∧ j ≠ 3 ∧ j ≠ (40 + m)) → bx j = bs j := by
        intro j hj
        rw [hbx]
        exact bsetL_ne (by rw [hmc]; simp only [List.mem_cons, List.not_mem_nil, or_false, not_or]; omega)
      obtain ⟨hP, hD⟩ := hcv bx ([]) (fun j h8 h9 => by rw [hbx]; exact bsetL_ne (by rw [hmc, ← hmo]; exact h9)) (by rw [hmo]; simp only [List.flatMap_cons, List.flatMap_nil, List.append_nil, List.append_assoc, t0, t1, t2, t3, hu0, hu1, hu3, hu40m])
      rw [List.append_nil] at hP hD
      obtain ⟨bc, hbc⟩ : ∃ X, X = bx := ⟨_, rfl⟩
      rw [← hbc] at hP hD t0 t1 t2 t3 E0
      have E1 := E0
      refine lv_aload_n hx hb dL_law_283 rfl (lv_at hl 1 rfl) ?_
      obtain ⟨um, hum⟩ : ∃ X : va_W, X = (cM (ad 46) (cy 46) tape 0 (nn (m + 1)) sgn1 lg1 cl1 cls1 rd nx1 wr1 nu1 (nn m) ma1 de1 li1 opn1 od1 stk tp wd S fo x wil mov brk w (nn c) kpt bhr far que qud onw mvp mvk isf sth drx im imF imX imM) := ⟨_, rfl⟩
      have bm : bc 46 = _ := (E1 46 (by omega)).trans b46
      obtain ⟨Lm, hLm⟩ : ∃ X : List (Nat × List (ClassId × FieldType) × va_W × va_W), X = [(46, tM (cy 46), bc 46, um)] := ⟨_, rfl⟩
      have hnm : (Lm.map Prod.fst).Nodup := by rw [hLm]; show ([46] : List Nat).Nodup; decide
      refine mbQ_i (As := []) (rest := [.int (nn m)]) Lm S9 k0 hP hD hS hA (c12_rule (l := l) (D := D) (ad := (ad 46)) (cy := (cy 46)) (z_tape := tape) (z_taped := (nn tn)) (z_rules := (nn m)) (z_sign := sign) (z_length := lg) (z_clause := clause) (z_clauses := clauses) (z_read := rd) (z_next := nxt) (z_wrong := wrg) (z_number := num) (z_text := txt) (z_made := mde) (z_deep := dep) (z_lines := lns) (z_open := opn) (z_opened := opd) (z_stack := stk) (z_top := tp) (z_word := wd) (z_said := S) (z_force := fo) (z_x := x) (z_will := wil) (z_moved := mov) (z_broke := brk) (z_wasSaid := w) (z_undone := (nn c)) (z_kept := kpt) (z_breakHour := bhr) (z_far := far) (z_queue := que) (z_queued := qud) (z_isOnWay := onw) (z_movePerson := mvp) (z_moveKind := mvk) (z_isFit := isf) (z_standThen := sth) (z_drawX := drx) (z_images := im) (z_imageForce := imF) (z_imageX := imX) (z_isMade := imM) (o_ret := (nn m)) (o_taped := 0) (o_rules := (nn (m + 1))) (o_sign := sgn1) (o_length := lg1) (o_clause := cl1) (o_clauses := cls1) (o_read := rd) (o_next := nx1) (o_wrong := wr1) (o_number := nu1) (o_text := (nn m)) (o_made := ma1) (o_deep := de1) (o_lines := li1) (o_open := opn1) (o_opened := od1) hmm) hnm (by rw [hLm]; exact List.forall_mem_cons.mpr ⟨show 46 < N by omega, fun _ h9 => absurd h9 List.not_mem_nil⟩) (by rw [hLm]; exact List.forall_mem_cons.mpr ⟨kM, fun _ h9 => absurd h9 List.not_mem_nil⟩) (by rw [hLm]; exact List.forall_mem_cons.mpr ⟨rfl, fun _ h9 => absurd h9 List.not_mem_nil⟩) (by rw [hLm]; rfl) (by rw [hLm]; simp only [List.flatMap_cons, List.flatMap_nil, List.append_nil, List.append_assoc]; rw [bm]) (by rw [hLm]; simp only [List.flatMap_cons, List.flatMap_nil, List.append_nil, List.append_assoc]; rw [hum]) (gdV mw_26_12 mw_26_13 mw_26_14 mw_1_5 mw_26_15) rfl rfl hd_f12_rule ⟨Nat.le_of_ble_eq_true rfl, Nat.le_of_ble_eq_true rfl⟩ (ci := 12) (q0 := 0) rfl rfl rfl hl.1 rfl (Nat.le_of_ble_eq_true rfl) dL_law_284 hf8 (fun H locs hP hD hS => ?_)
      obtain ⟨bn, hbn⟩ : ∃ X, X = bsetL bc Lm := ⟨_, rfl⟩
      rw [← hbn] at hP hD
      have tm : bn 46 = um := by rw [hbn]; exact bsetL_at (x := (46, tM (cy 46), bc 46, um)) hnm (by rw [hLm]; exact List.mem_of_getElem? (i := 0) rfl)
      have E2 : ∀ j, j ≠ 46 → bn j = bc j := by
        intro j hj
        rw [hbn]
        exact bsetL_ne (by rw [hLm]; show j ∉ ([46] : List Nat); simp only [List.mem_cons, List.not_mem_nil, or_false]; exact hj)
      have E : ∀ j, (j ≠ 46 ∧ j ≠ 0 ∧ j ≠ 1 ∧ j ≠ 3 ∧ j ≠ (40 + m)) → bn j = bs j := fun j hj => (E2 j (by omega)).trans (E1 j (by omega))
      have s0 : bn 0 = u0 := (E2 _ (by omega)).trans t0
      have s1 : bn 1 = u1 := (E2 _ (by omega)).trans t1
      have s2 : bn 3 = u3 := (E2 _ (by omega)).trans t2
      have s3 : bn (40 + m) = u40m := (E2 _ (by omega)).trans t3
      refine lv_icmp_eq (tgt := 1115) hx hb dL_law_287 rfl (fun _ => ?_) (fun c8 => absurd rfl c8)
      refine W.widen (k := cells + 8) (n := slots + 13200) (by omega) (by omega) ?_
      have EL : ∀ j, 47 ≤ j → j < N → bn j = bs j := fun j h1 h2 => E j (by omega)
      exact kk N bn H locs ⟨(m + 1), c, nx, 0, R, P, A0, (va_up rls m (some qa)), bytes, 0, fo, x, notes, nh, nr, nm, hour, broken, rung, grip, want, slips, worn, tape, sgn1, cl1, cls1, S, w, im, imF, imX, imM, hN, (s0.trans hu0), ⟨_, _, _, _, _, (s1.trans hu1)⟩, (E 2 (by omega)).trans b2, ⟨_, _, _, _, _, _, (s2.trans hu3)⟩, hBN.congr (E 4 (by omega)), (E 5 (by omega)).trans b5, hBH.congr (E 6 (by omega)), hBO.congr (E 7 (by omega)), hB8.congr (E 8 (by omega)), hBP.congr (E 9 (by omega)), hBS.congr (E 10 (by omega)), hB11.congr (E 11 (by omega)), hSc.congr (Nat.le_refl _) EL, hPs.congr (fun k hk => E _ (by omega)), hIm.congr (Nat.le_succ _) (Nat.le_refl _) (fun k hk => E _ (by omega)) EL, hRu.add (rh := adOf qa Lq) hm hFR hFRc (fun j h1 h2 => E _ (by omega)) (s3.trans hu40m) (hKz.sub [7, 8, 9, 10] rfl) hOK ⟨rfl, rfl, rfl, fun i h => (hc1 i h).trans (hcd i h), fun c h => ⟨(hc2 c h).trans (hse c h).1, (hc3 c h).trans (hse c h).2⟩⟩ hRM, ⟨_, _, _, _, _, _, _, _, _, _, _, _, _, _, _, _, _, _, _, _, _, _, _, _, _, _, _, _, tm.trans hum⟩, ⟨by omega, rfl, rfl, fun i hi => absurd hi (Nat.not_lt_zero i)⟩, hm, hof.mono (Nat.le_succ _), hox⟩ hP hD hS
    · skip
      refine lv_aload_n hx hb dL_law_279 rfl (lv_at hl 2 rfl) ?_
      obtain ⟨Lo, hLo⟩ : ∃ X : List (Nat × List (ClassId × FieldType) × va_W × va_W), X = [(0, tLL (cy 0), bs 0, bs 0), (1, tTp (cy 1), bs 1, bs 1), (3, tRR (cy 3), bs 3, bs 3)] := ⟨_, rfl⟩
      have hmo : Lo.map Prod.fst = [0, 1, 3] := by rw [hLo]; rfl
      have hno : (Lo.map Prod.fst).Nodup := by rw [hmo]; simp only [List.nodup_cons, List.mem_cons, List.not_mem_nil, or_false, not_or, List.nodup_nil, and_true, not_false_eq_true] <;> omega
      have hlt : ∀ x ∈ Lo, x.1 < N := by rw [hLo]; exact List.forall_mem_cons.mpr ⟨show 0 < N by omega, List.forall_mem_cons.mpr ⟨show 1 < N by omega, List.forall_mem_cons.mpr ⟨show 3 < N by omega, fun _ h9 => absurd h9 List.not_mem_nil⟩⟩⟩
      have hkL : ∀ x ∈ Lo, va_K D vwCl x.2.1 s := by rw [hLo]; exact List.forall_mem_cons.mpr ⟨kLL, List.forall_mem_cons.mpr ⟨kTp, List.forall_mem_cons.mpr ⟨kRR, fun _ h9 => absurd h9 List.not_mem_nil⟩⟩⟩
      have hbL : ∀ x ∈ Lo, bs x.1 = x.2.2.1 := by rw [hLo]; exact List.forall_mem_cons.mpr ⟨rfl, List.forall_mem_cons.mpr ⟨rfl, List.forall_mem_cons.mpr ⟨rfl, fun _ h9 => absurd h9 List.not_mem_nil⟩⟩⟩
      refine mbQ_T (As := []) (rest := []) Lo S9 k0 hP hD hS hA hE9 hV9 (c11_rule_bad (l := l) (D := D) (adK := adK) (adV := adV) (aL := ad 0) (aT := ad 1) (aR := ad 3) (yL := cy 0) (yT := cy 1) (yR := cy 3) (zlr := ad 2 0) (zn := ad 4 0) (zh := ad 6 0) (zo := ad 7 0) (zp := ad 9 0) (zs := ad 10 0) (rls := rls) (im := ims) (pst := pst) (nx := nn nx) (pc0 := nn c) (len := nn tn) (kind := kd) (sign := sg) (fault := ft) (start := sa) (stop := sp) (size := sz3) (cn := cn3) (vals := vl3) (by9 := bytes) (code := co3) (sumEnd := se3) (testEnd := te3) (u1 := v1) (k1 := k1) (g1 := q1) (st1 := st1) (sp1 := sp1) (code1 := co1) (sumEnd1 := se1) (testEnd1 := te1) (k := m) (f1 := nn w0) (size1 := sz1) (cn1 := cn1) hm hc) hno hlt hkL hbL (by rw [hLo]; rfl) (by rw [hLo]; simp only [List.flatMap_cons, List.flatMap_nil, List.append_nil, List.append_assoc, b0, b1, b3]) (gdV mw_22_16 mw_22_17 mw_22_18 mw_1_2 mw_22_19) rfl rfl hd_f11_rule ⟨Nat.le_of_ble_eq_true rfl, Nat.le_of_ble_eq_true rfl⟩ (ci := 11) (q0 := 0) rfl rfl rfl hl.1 rfl (Nat.le_of_ble_eq_true rfl) dL_law_280 ⟨by show cells + 5 ≤ 600000; omega, by show slots + 1269 ≤ 7302250; omega⟩ (fun wz tz rz H locs hZ hKz hcv hS => ?_)
      have hf8 : cells + 5 ≤ room_1.cells ∧ slots + 1269 ≤ room_1.slots := ⟨by show cells + 5 ≤ 600000; omega, by show slots + 1269 ≤ 7302250; omega⟩
      obtain ⟨rfl, rfl, rfl⟩ := hZ
      obtain ⟨u1, hu1⟩ : ∃ X : va_W, X = cTp (ad 1) (cy 1) bytes 0 k1 q1 (nn w0) st1 sp1 := ⟨_, rfl⟩
      obtain ⟨u3, hu3⟩ : ∃ X : va_W, X = cRR (ad 3) (cy 3) (ad 1 0) co1 se1 te1 sz1 cn1 v1 := ⟨_, rfl⟩
      obtain ⟨Lc, hLc⟩ : ∃ X : List (Nat × List (ClassId × FieldType) × va_W × va_W), X = [(0, tLL (cy 0), bs 0, bs 0), (1, tTp (cy 1), bs 1, u1), (3, tRR (cy 3), bs 3, u3)] := ⟨_, rfl⟩
      have hmc : Lc.map Prod.fst = [0, 1, 3] := by rw [hLc]; rfl
      have hnd : (Lc.map Prod.fst).Nodup := by rw [hmc, ← hmo]; exact hno
      obtain ⟨bx, hbx⟩ : ∃ X, X = bsetL bs Lc := ⟨_, rfl⟩
      have t0 : bx 0 = bs 0 := by rw [hbx]; exact bsetL_at (x := (0, tLL (cy 0), bs 0, bs 0)) hnd (by rw [hLc]; exact List.mem_of_getElem? (i := 0) rfl)
      have t1 : bx 1 = u1 := by rw [hbx]; exact bsetL_at (x := (1, tTp (cy 1), bs 1, u1)) hnd (by rw [hLc]; exact List.mem_of_getElem? (i := 1) rfl)
      have t2 : bx 3 = u3 := by rw [hbx]; exact bsetL_at (x := (3, tRR (cy 3), bs 3, u3)) hnd (by rw [hLc]; exact List.mem_of_getElem? (i := 2) rfl)
      have E0 : ∀ j, (j ≠ 1 ∧ j ≠ 3) → bx j = bs j := by
        intro j hj
        by_cases q0 : j = 0
        · rw [q0]; exact t0
        rw [hbx]
        exact bsetL_ne (by rw [hmc]; simp only [List.mem_cons, List.not_mem_nil, or_false, not_or]; omega)
      obtain ⟨hP, hD⟩ := hcv bx ([]) (fun j h8 h9 => by rw [hbx]; exact bsetL_ne (by rw [hmc, ← hmo]; exact h9)) (by rw [hmo]; simp only [List.flatMap_cons, List.flatMap_nil, List.append_nil, List.append_assoc, t0, t1, t2, b0, hu1, hu3])
      rw [List.append_nil] at hP hD
      obtain ⟨bc, hbc⟩ : ∃ X, X = bx := ⟨_, rfl⟩
      rw [← hbc] at hP hD t0 t1 t2 E0
      have E1 := E0
      refine lv_aload_n hx hb dL_law_283 rfl (lv_at hl 1 rfl) ?_
      obtain ⟨um, hum⟩ : ∃ X : va_W, X = (cM (ad 46) (cy 46) tape 0 (nn m) sgn1 lg1 cl1 cls1 rd nx1 wr1 nu1 (nn m) ma1 de1 li1 opn1 od1 stk tp wd S fo x wil mov brk w (nn c) kpt bhr far que qud onw mvp mvk isf sth drx im imF imX imM) := ⟨_, rfl⟩
      have bm : bc 46 = _ := (E1 46 (by omega)).trans b46
      obtain ⟨Lm, hLm⟩ : ∃ X : List (Nat × List (ClassId × FieldType) × va_W × va_W), X = [(46, tM (cy 46), bc 46, um)] := ⟨_, rfl⟩
      have hnm : (Lm.map Prod.fst).Nodup := by rw [hLm]; show ([46] : List Nat).Nodup; decide
      refine mbQ_i (As := []) (rest := [.int (-2 - nn w0)]) Lm S9 k0 hP hD hS hA (c12_rule (l := l) (D := D) (ad := (ad 46)) (cy := (cy 46)) (z_tape := tape) (z_taped := (nn tn)) (z_rules := (nn m)) (z_sign := sign) (z_length := lg) (z_clause := clause) (z_clauses := clauses) (z_read := rd) (z_next := nxt) (z_wrong := wrg) (z_number := num) (z_text := txt) (z_made := mde) (z_deep := dep) (z_lines := lns) (z_open := opn) (z_opened := opd) (z_stack := stk) (z_top := tp) (z_word := wd) (z_said := S) (z_force := fo) (z_x := x) (z_will := wil) (z_moved := mov) (z_broke := brk) (z_wasSaid := w) (z_undone := (nn c)) (z_kept := kpt) (z_breakHour := bhr) (z_far := far) (z_queue := que) (z_queued := qud) (z_isOnWay := onw) (z_movePerson := mvp) (z_moveKind := mvk) (z_isFit := isf) (z_standThen := sth) (z_drawX := drx) (z_images := im) (z_imageForce := imF) (z_imageX := imX) (z_isMade := imM) (o_ret := (-2 - nn w0)) (o_taped := 0) (o_rules := (nn m)) (o_sign := sgn1) (o_length := lg1) (o_clause := cl1) (o_clauses := cls1) (o_read := rd) (o_next := nx1) (o_wrong := wr1) (o_number := nu1) (o_text := (nn m)) (o_made := ma1) (o_deep := de1) (o_lines := li1) (o_open := opn1) (o_opened := od1) hmm) hnm (by rw [hLm]; exact List.forall_mem_cons.mpr ⟨show 46 < N by omega, fun _ h9 => absurd h9 List.not_mem_nil⟩) (by rw [hLm]; exact List.forall_mem_cons.mpr ⟨kM, fun _ h9 => absurd h9 List.not_mem_nil⟩) (by rw [hLm]; exact List.forall_mem_cons.mpr ⟨rfl, fun _ h9 => absurd h9 List.not_mem_nil⟩) (by rw [hLm]; rfl) (by rw [hLm]; simp only [List.flatMap_cons, List.flatMap_nil, List.append_nil, List.append_assoc]; rw [bm]) (by rw [hLm]; simp only [List.flatMap_cons, List.flatMap_nil, List.append_nil, List.append_assoc]; rw [hum]) (gdV mw_26_12 mw_26_13 mw_26_14 mw_1_5 mw_26_15) rfl rfl hd_f12_rule ⟨Nat.le_of_ble_eq_true rfl, Nat.le_of_ble_eq_true rfl⟩ (ci := 12) (q0 := 0) rfl rfl rfl hl.1 rfl (Nat.le_of_ble_eq_true rfl) dL_law_284 hf8 (fun H locs hP hD hS => ?_)
      obtain ⟨bn, hbn⟩ : ∃ X, X = bsetL bc Lm := ⟨_, rfl⟩
      rw [← hbn] at hP hD
      have tm : bn 46 = um := by rw [hbn]; exact bsetL_at (x := (46, tM (cy 46), bc 46, um)) hnm (by rw [hLm]; exact List.mem_of_getElem? (i := 0) rfl)
      have E2 : ∀ j, j ≠ 46 → bn j = bc j := by
        intro j hj
        rw [hbn]
        exact bsetL_ne (by rw [hLm]; show j ∉ ([46] : List Nat); simp only [List.mem_cons, List.not_mem_nil, or_false]; exact hj)
      have E : ∀ j, (j ≠ 46 ∧ j ≠ 1 ∧ j ≠ 3) → bn j = bs j := fun j hj => (E2 j (by omega)).trans (E1 j (by omega))
      have s1 : bn 1 = u1 := (E2 _ (by omega)).trans t1
      have s2 : bn 3 = u3 := (E2 _ (by omega)).trans t2
      refine lv_icmp_eq (tgt := 1115) hx hb dL_law_287 rfl (fun _ => ?_) (fun c8 => absurd rfl c8)
      refine W.widen (k := cells + 8) (n := slots + 13200) (by omega) (by omega) ?_
      have EL : ∀ j, 47 ≤ j → j < N → bn j = bs j := fun j h1 h2 => E j (by omega)
      exact kk N bn H locs ⟨m, c, nx, 0, R, P, A0, rls, bytes, 0, fo, x, notes, nh, nr, nm, hour, broken, rung, grip, want, slips, worn, tape, sgn1, cl1, cls1, S, w, im, imF, imX, imM, hN, (E 0 (by omega)).trans b0, ⟨_, _, _, _, _, (s1.trans hu1)⟩, (E 2 (by omega)).trans b2, ⟨_, _, _, _, _, _, (s2.trans hu3)⟩, hBN.congr (E 4 (by omega)), (E 5 (by omega)).trans b5, hBH.congr (E 6 (by omega)), hBO.congr (E 7 (by omega)), hB8.congr (E 8 (by omega)), hBP.congr (E 9 (by omega)), hBS.congr (E 10 (by omega)), hB11.congr (E 11 (by omega)), hSc.congr (Nat.le_refl _) EL, hPs.congr (fun k hk => E _ (by omega)), hIm.congr (Nat.le_refl _) (Nat.le_refl _) (fun k hk => E _ (by omega)) EL, hRu.frame (Nat.le_refl _) hFR hFRc hm6 (fun j hj => E _ (by omega)), ⟨_, _, _, _, _, _, _, _, _, _, _, _, _, _, _, _, _, _, _, _, _, _, _, _, _, _, _, _, tm.trans hum⟩, ⟨by omega, rfl, rfl, fun i hi => absurd hi (Nat.not_lt_zero i)⟩, hm6, hof, hox⟩ hP hD hS
  · skip
    refine lv_aload_n hx hb dL_law_279 rfl (lv_at hl 2 rfl) ?_
    obtain ⟨Lo, hLo⟩ : ∃ X : List (Nat × List (ClassId × FieldType) × va_W × va_W), X = [(0, tLL (cy 0), bs 0, bs 0), (1, tTp (cy 1), bs 1, bs 1), (3, tRR (cy 3), bs 3, bs 3)] := ⟨_, rfl⟩
    have hmo : Lo.map Prod.fst = [0, 1, 3] := by rw [hLo]; rfl
    have hno : (Lo.map Prod.fst).Nodup := by rw [hmo]; simp only [List.nodup_cons, List.mem_cons, List.not_mem_nil, or_false, not_or, List.nodup_nil, and_true, not_false_eq_true] <;> omega
    have hlt : ∀ x ∈ Lo, x.1 < N := by rw [hLo]; exact List.forall_mem_cons.mpr ⟨show 0 < N by omega, List.forall_mem_cons.mpr ⟨show 1 < N by omega, List.forall_mem_cons.mpr ⟨show 3 < N by omega, fun _ h9 => absurd h9 List.not_mem_nil⟩⟩⟩
    have hkL : ∀ x ∈ Lo, va_K D vwCl x.2.1 s := by rw [hLo]; exact List.forall_mem_cons.mpr ⟨kLL, List.forall_mem_cons.mpr ⟨kTp, List.forall_mem_cons.mpr ⟨kRR, fun _ h9 => absurd h9 List.not_mem_nil⟩⟩⟩
    have hbL : ∀ x ∈ Lo, bs x.1 = x.2.2.1 := by rw [hLo]; exact List.forall_mem_cons.mpr ⟨rfl, List.forall_mem_cons.mpr ⟨rfl, List.forall_mem_cons.mpr ⟨rfl, fun _ h9 => absurd h9 List.not_mem_nil⟩⟩⟩
    refine mbQ_T (As := []) (rest := []) Lo S9 k0 hP hD hS hA hE9 hV9 (c11_rule_full (l := l) (D := D) (adK := adK) (adV := adV) (aL := ad 0) (aT := ad 1) (aR := ad 3) (yL := cy 0) (yT := cy 1) (yR := cy 3) (zlr := ad 2 0) (zn := ad 4 0) (zh := ad 6 0) (zo := ad 7 0) (zp := ad 9 0) (zs := ad 10 0) (rls := rls) (im := ims) (pst := pst) (nx := nn nx) (pc0 := nn c) (len := nn tn) (kind := kd) (sign := sg) (fault := ft) (start := sa) (stop := sp) (size := sz3) (cn := cn3) (vals := vl3) (by9 := bytes) (code := co3) (sumEnd := se3) (testEnd := te3) (k := 6) (u1 := 0) (k1 := 0) (g1 := 0) (f1 := 0) (st1 := 0) (sp1 := 0) (code1 := co3) (sumEnd1 := se3) (testEnd1 := te3) rfl) hno hlt hkL hbL (by rw [hLo]; rfl) (by rw [hLo]; simp only [List.flatMap_cons, List.flatMap_nil, List.append_nil, List.append_assoc, b0, b1, b3]) (gdV mw_22_16 mw_22_17 mw_22_18 mw_1_2 mw_22_19) rfl rfl hd_f11_rule ⟨Nat.le_of_ble_eq_true rfl, Nat.le_of_ble_eq_true rfl⟩ (ci := 11) (q0 := 0) rfl rfl rfl hl.1 rfl (Nat.le_of_ble_eq_true rfl) dL_law_280 ⟨by show cells + 5 ≤ 600000; omega, by show slots + 1269 ≤ 7302250; omega⟩ (fun wz tz rz H locs hZ hKz hcv hS => ?_)
    have hf8 : cells + 5 ≤ room_1.cells ∧ slots + 1269 ≤ room_1.slots := ⟨by show cells + 5 ≤ 600000; omega, by show slots + 1269 ≤ 7302250; omega⟩
    obtain ⟨rfl, rfl, rfl⟩ := hZ
    obtain ⟨Lc, hLc⟩ : ∃ X : List (Nat × List (ClassId × FieldType) × va_W × va_W), X = [(0, tLL (cy 0), bs 0, bs 0), (1, tTp (cy 1), bs 1, bs 1), (3, tRR (cy 3), bs 3, bs 3)] := ⟨_, rfl⟩
    have hmc : Lc.map Prod.fst = [0, 1, 3] := by rw [hLc]; rfl
    have hnd : (Lc.map Prod.fst).Nodup := by rw [hmc, ← hmo]; exact hno
    obtain ⟨bx, hbx⟩ : ∃ X, X = bsetL bs Lc := ⟨_, rfl⟩
    have t0 : bx 0 = bs 0 := by rw [hbx]; exact bsetL_at (x := (0, tLL (cy 0), bs 0, bs 0)) hnd (by rw [hLc]; exact List.mem_of_getElem? (i := 0) rfl)
    have t1 : bx 1 = bs 1 := by rw [hbx]; exact bsetL_at (x := (1, tTp (cy 1), bs 1, bs 1)) hnd (by rw [hLc]; exact List.mem_of_getElem? (i := 1) rfl)
    have t2 : bx 3 = bs 3 := by rw [hbx]; exact bsetL_at (x := (3, tRR (cy 3), bs 3, bs 3)) hnd (by rw [hLc]; exact List.mem_of_getElem? (i := 2) rfl)
    have E0 : ∀ j, bx j = bs j := by
      intro j
      by_cases q0 : j = 0
      · rw [q0]; exact t0
      by_cases q1 : j = 1
      · rw [q1]; exact t1
      by_cases q2 : j = 3
      · rw [q2]; exact t2
      rw [hbx]
      exact bsetL_ne (by rw [hmc]; simp only [List.mem_cons, List.not_mem_nil, or_false, not_or]; omega)
    obtain ⟨hP, hD⟩ := hcv bx ([]) (fun j h8 h9 => by rw [hbx]; exact bsetL_ne (by rw [hmc, ← hmo]; exact h9)) (by rw [hmo]; simp only [List.flatMap_cons, List.flatMap_nil, List.append_nil, List.append_assoc, t0, t1, t2, b0, b1, b3])
    rw [List.append_nil] at hP hD
    obtain ⟨bc, hbc⟩ : ∃ X, X = bx := ⟨_, rfl⟩
    rw [← hbc] at hP hD t0 t1 t2 E0
    have E1 := E0
    refine lv_aload_n hx hb dL_law_283 rfl (lv_at hl 1 rfl) ?_
    obtain ⟨um, hum⟩ : ∃ X : va_W, X = (cM (ad 46) (cy 46) tape (nn tn) (nn 6) sign lg clause clauses rd nxt wrg num txt mde dep lns opn opd stk tp wd S fo x wil mov brk w (nn c) kpt bhr far que qud onw mvp mvk isf sth drx im imF imX imM) := ⟨_, rfl⟩
    have bm : bc 46 = _ := (E1 46).trans b46
    obtain ⟨Lm, hLm⟩ : ∃ X : List (Nat × List (ClassId × FieldType) × va_W × va_W), X = [(46, tM (cy 46), bc 46, um)] := ⟨_, rfl⟩
    have hnm : (Lm.map Prod.fst).Nodup := by rw [hLm]; show ([46] : List Nat).Nodup; decide
    refine mbQ_i (As := []) (rest := [.int (-1)]) Lm S9 k0 hP hD hS hA (c12_rule (l := l) (D := D) (ad := (ad 46)) (cy := (cy 46)) (z_tape := tape) (z_taped := (nn tn)) (z_rules := (nn 6)) (z_sign := sign) (z_length := lg) (z_clause := clause) (z_clauses := clauses) (z_read := rd) (z_next := nxt) (z_wrong := wrg) (z_number := num) (z_text := txt) (z_made := mde) (z_deep := dep) (z_lines := lns) (z_open := opn) (z_opened := opd) (z_stack := stk) (z_top := tp) (z_word := wd) (z_said := S) (z_force := fo) (z_x := x) (z_will := wil) (z_moved := mov) (z_broke := brk) (z_wasSaid := w) (z_undone := (nn c)) (z_kept := kpt) (z_breakHour := bhr) (z_far := far) (z_queue := que) (z_queued := qud) (z_isOnWay := onw) (z_movePerson := mvp) (z_moveKind := mvk) (z_isFit := isf) (z_standThen := sth) (z_drawX := drx) (z_images := im) (z_imageForce := imF) (z_imageX := imX) (z_isMade := imM) (o_ret := (-1)) (o_taped := (nn tn)) (o_rules := (nn 6)) (o_sign := sign) (o_length := lg) (o_clause := clause) (o_clauses := clauses) (o_read := rd) (o_next := nxt) (o_wrong := wrg) (o_number := num) (o_text := txt) (o_made := mde) (o_deep := dep) (o_lines := lns) (o_open := opn) (o_opened := opd) m_rule6) hnm (by rw [hLm]; exact List.forall_mem_cons.mpr ⟨show 46 < N by omega, fun _ h9 => absurd h9 List.not_mem_nil⟩) (by rw [hLm]; exact List.forall_mem_cons.mpr ⟨kM, fun _ h9 => absurd h9 List.not_mem_nil⟩) (by rw [hLm]; exact List.forall_mem_cons.mpr ⟨rfl, fun _ h9 => absurd h9 List.not_mem_nil⟩) (by rw [hLm]; rfl) (by rw [hLm]; simp only [List.flatMap_cons, List.flatMap_nil, List.append_nil, List.append_assoc]; rw [bm]) (by rw [hLm]; simp only [List.flatMap_cons, List.flatMap_nil, List.append_nil, List.append_assoc]; rw [hum]) (gdV mw_26_12 mw_26_13 mw_26_14 mw_1_5 mw_26_15) rfl rfl hd_f12_rule ⟨Nat.le_of_ble_eq_true rfl, Nat.le_of_ble_eq_true rfl⟩ (ci := 12) (q0 := 0) rfl rfl rfl hl.1 rfl (Nat.le_of_ble_eq_true rfl) dL_law_284 hf8 (fun H locs hP hD hS => ?_)
    obtain ⟨bn, hbn⟩ : ∃ X, X = bsetL bc Lm := ⟨_, rfl⟩
    rw [← hbn] at hP hD
    have tm : bn 46 = um := by rw [hbn]; exact bsetL_at (x := (46, tM (cy 46), bc 46, um)) hnm (by rw [hLm]; exact List.mem_of_getElem? (i := 0) rfl)
    have E2 : ∀ j, j ≠ 46 → bn j = bc j := by
      intro j hj
      rw [hbn]
      exact bsetL_ne (by rw [hLm]; show j ∉ ([46] : List Nat); simp only [List.mem_cons, List.not_mem_nil, or_false]; exact hj)
    have E : ∀ j, (j ≠ 46) → bn j = bs j := fun j hj => (E2 j (by omega)).trans (E1 j)
    refine lv_icmp_eq (tgt := 1115) hx hb dL_law_287 rfl (fun _ => ?_) (fun c8 => absurd rfl c8)
    refine W.widen (k := cells + 8) (n := slots + 13200) (by omega) (by omega) ?_
    have EL : ∀ j, 47 ≤ j → j < N → bn j = bs j := fun j h1 h2 => E j (by omega)
    exact kk N bn H locs ⟨6, c, nx, tn, R, P, A0, rls, bytes, (nn tn), fo, x, notes, nh, nr, nm, hour, broken, rung, grip, want, slips, worn, tape, sign, clause, clauses, S, w, im, imF, imX, imM, hN, (E 0 (by omega)).trans b0, hBT.congr (E 1 (by omega)), (E 2 (by omega)).trans b2, hBRR.congr (E 3 (by omega)), hBN.congr (E 4 (by omega)), (E 5 (by omega)).trans b5, hBH.congr (E 6 (by omega)), hBO.congr (E 7 (by omega)), hB8.congr (E 8 (by omega)), hBP.congr (E 9 (by omega)), hBS.congr (E 10 (by omega)), hB11.congr (E 11 (by omega)), hSc.congr (Nat.le_refl _) EL, hPs.congr (fun k hk => E _ (by omega)), hIm.congr (Nat.le_refl _) (Nat.le_refl _) (fun k hk => E _ (by omega)) EL, hRu.congr (fun j hj => E _ (by omega)) hm6, ⟨_, _, _, _, _, _, _, _, _, _, _, _, _, _, _, _, _, _, _, _, _, _, _, _, _, _, _, _, tm.trans hum⟩, hTP, hm6, hof, hox⟩ hP hD hS

end
