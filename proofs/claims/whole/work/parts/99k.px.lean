/-! the law's cases: undo, image, back -/
section
variable {S S' w : Nat → Int32} {R P : Nat} {hour broken : Int32} {rung grip want slips worn : Nat → Int32} {ph pb : Nat → Int32} {pr pg pw ps pk : Nat → Nat → Int32}
theorem r_undo_s {c nx pa qn qp : Nat} {pst : Nat → Option Nat} (hN : RPa R P S w (c + 1) nx ph pb pr pg pw ps pk) (hp : pst (if nx ≤ 0 then 19 else nx - 1) = some pa) : ∃ r1 g1 w1 s1 k1 S', f11_undo pst (nn nx) (nn (c + 1)) hour broken rung grip want slips worn (ph (if nx ≤ 0 then 19 else nx - 1)) (pb (if nx ≤ 0 then 19 else nx - 1)) (pr (if nx ≤ 0 then 19 else nx - 1)) (pg (if nx ≤ 0 then 19 else nx - 1)) (pw (if nx ≤ 0 then 19 else nx - 1)) (ps (if nx ≤ 0 then 19 else nx - 1)) (pk (if nx ≤ 0 then 19 else nx - 1)) pa qn qp = some (nn c, nn (if nx ≤ 0 then 19 else nx - 1), nn c, ph (if nx ≤ 0 then 19 else nx - 1), pb (if nx ≤ 0 then 19 else nx - 1), r1, g1, w1, s1, k1, qp) ∧ f12_undo S w (nn (c + 1)) = some (nn c, S', nn c) ∧ RWd S' (ph (if nx ≤ 0 then 19 else nx - 1)) (pb (if nx ≤ 0 then 19 else nx - 1)) r1 g1 w1 s1 k1 ∧ IV R P S' ∧ St S S' ∧ RPa R P S' w c (if nx ≤ 0 then 19 else nx - 1) ph pb pr pg pw ps pk := by
  obtain ⟨hc, hn, hE⟩ := hN
  have hE2 := hE c (by omega)
  rw [sl_last hn hc] at hE2
  obtain ⟨i1, i2, i3⟩ := hE2
  refine ⟨_, _, _, _, _, _, ?_, m_undo hc, i3.copy (r0 := rung) (g0 := grip) (w0 := want) (s0 := slips) (k0 := worn), i1, i2, ?_⟩
  · have e : nn (c + 1) - 1 = nn c := by rw [← nn_succ, Int32.add_sub_cancel]
    unfold f11_undo f11_undo_J38
    rw [if_pos (show (0 : Int32) < nn (c + 1) from nltT (a := 0) (by omega) (by omega) (by omega)), e, lt_df]
    by_cases h : nx ≤ 0
    · rw [if_pos (show nn nx ≤ 0 from nleT (b := 0) (by omega) (by omega) h)]
      rw [if_pos h] at hp
      simp only [if_pos h]
      rw [show Int32.toNatClampNeg (19 : Int32) = 19 from rfl, if_neg (by decide), hp, if_neg (fun h => h rfl), c_copyFrom, bnd7_s]
      rfl
    · have e2 : nn nx - 1 = nn (nx - 1) := by
        obtain ⟨q, rfl⟩ : ∃ q, nx = q + 1 := ⟨nx - 1, by omega⟩
        rw [← nn_succ, Int32.add_sub_cancel]; rfl
      rw [if_neg (show ¬ nn nx ≤ 0 from nle (b := 0) (by omega) (by omega) h), e2, nn_nat (show nx - 1 < 2147483648 by omega)]
      rw [if_neg h] at hp
      simp only [if_neg h]
      rw [if_neg (ng (by omega) (by omega)), hp, if_neg (fun h => h rfl), c_copyFrom, bnd7_s]
  · have hP : RPa R P S w c (if nx ≤ 0 then 19 else nx - 1) ph pb pr pg pw ps pk := by
      refine ⟨by omega, by split <;> omega, fun i hi => ?_⟩
      rw [sl_dn hn hi hc]
      exact hE i (by omega)
    exact hP.st i2
end
section
variable {D : va_G} {s : State} {ad : Nat → Nat → Nat} {cy : Nat → Nat → ClassId} {N m : Nat} {bs bs' : Nat → va_W}
variable {S w : Nat → Int32} {R P A c nx k : Nat} {hour broken notes fo x : Int32} {rung grip want slips worn nh nr nm rung' grip' want' slips' worn' nh' nr' nm' : Nat → Int32} {im imF imX imM : Nat → Int32}
theorem Sc.rw (h : Sc D s N bs R P S A hour broken rung grip want slips worn notes nh nr nm) : RWd S hour broken rung grip want slips worn ∧ RNo S notes nh nr nm := by
  obtain ⟨a1, a2, a3, a4, a5, a6, a7, a8, a9, b1, b2, b3, c1, c2, c3, c4, c5, d1, d2, d3, d4, d5, d6, d7⟩ := h
  exact ⟨d2, d7⟩
theorem BPs.none {S' w' : Nat → Int32} {R' P' A' : Nat} (h : BPs ad cy bs R P S w c nx A) (e : ∀ k, k < 20 → bs' (20 + k) = bs (20 + k)) : BPs ad cy bs' R' P' S' w' 0 nx A' := by
  obtain ⟨pq, ph, pb, pr, pg, pw, ps, pk, h1, h2, h3⟩ := h
  exact ⟨pq, ph, pb, pr, pg, pw, ps, pk, fun k hk => (e k hk).trans (h1 k hk), ⟨by omega, h2.2.1, fun i hi => absurd hi (Nat.not_lt_zero i)⟩, fun i hi => absurd hi (Nat.not_lt_zero i)⟩
theorem BPs.down (h : BPs ad cy bs R P S w (c + 1) nx A) (e : ∀ k, k < 20 → bs' (20 + k) = bs (20 + k)) {S' : Nat → Int32} {sx : Nat} (hsx : sx = (if nx ≤ 0 then 19 else nx - 1)) (hs : St S S') : BPs ad cy bs' R P S' w c sx A := by
  obtain ⟨pq, ph, pb, pr, pg, pw, ps, pk, h1, h2, h3⟩ := h
  subst hsx
  refine ⟨pq, ph, pb, pr, pg, pw, ps, pk, fun k hk => (e k hk).trans (h1 k hk), RPa.st ⟨by have := h2.1; omega, by have := h2.2.1; split <;> omega, fun i hi => ?_⟩ hs, fun i hi => ?_⟩
  · rw [sl_dn h2.2.1 hi h2.1]
    exact h2.2.2 i (by omega)
  · rw [sl_dn h2.2.1 hi h2.1]
    exact h3 i (by omega)
theorem BIm.image (h : BIm D s ad cy N bs m im imF imX imM) (hk : k < 4) (e1 : bs' (12 + k) = cSt (ad (12 + k)) (cy (12 + k)) (ad (16 + k) 0) fo x notes nh' nr' nm' 1) (e2 : bs' (16 + k) = cW (ad (16 + k)) (cy (16 + k)) A hour broken rung' grip' want' slips' worn') (E : ∀ j, j < 8 → j ≠ k → j ≠ 4 + k → bs' (12 + j) = bs (12 + j)) (EL : ∀ j, 47 ≤ j → j < N → bs' j = bs j) (hof : OKf m fo) (hox : OKx x) (hSc : Sc D s N bs R P S A hour broken rung grip want slips worn notes nh nr nm) (hW : RWd S hour broken rung' grip' want' slips' worn') (hN : RNo S notes nh' nr' nm') : BIm D s ad cy N bs' m (imP S im k 110) (upd imF k fo) (upd imX k x) (upd imM k 1) := by
  intro j hj
  by_cases h9 : j = k
  · subst h9
    have q1 : Lo S (imS (imP S im j 110) j) := fun i hi => imS_self (by omega)
    exact ⟨A, fo, x, notes, nh', nr', nm', 1, hour, broken, rung', grip', want', slips', worn', e1, e2, upd_at.symm, fun _ => ⟨upd_at.symm, upd_at.symm, hof, hox, R, P, (hSc.copy q1 (hW.lo q1) (hN.of (fun i _ hi => imS_self hi))).congr (Nat.le_refl _) EL⟩⟩
  · obtain ⟨a1, a2, a3, a4, a5, a6, a7, a8, a9, b1, b2, b3, b4, b5, b6, c1, c2, c3, c4⟩ := h j hj
    refine ⟨a1, a2, a3, a4, a5, a6, a7, a8, a9, b1, b2, b3, b4, b5, b6, (E j (by omega) h9 (by omega)).trans c1, ?_, c3.trans (upd_ne h9).symm, fun h8 => ?_⟩
    · have := E (4 + j) (by omega) (by omega) (by omega)
      rw [show 12 + (4 + j) = 16 + j by omega] at this
      exact this.trans c2
    · obtain ⟨d1, d2, d3, d4, R2, P2, d5⟩ := c4 h8
      have q1 : Lo (imS im j) (imS (imP S im k 110) j) := fun i hi => imS_other (by omega) h9
      obtain ⟨f1, f2⟩ := d5.rw
      exact ⟨d1.trans (upd_ne h9).symm, d2.trans (upd_ne h9).symm, d3, d4, R2, P2, (d5.copy q1 (f1.lo q1) (f2.of (fun i _ hi => imS_other hi h9))).congr (Nat.le_refl _) EL⟩
theorem nn_inj9 {a b : Nat} (ha : a < 2147483648) (hb : b < 2147483648) (h : nn a = nn b) : a = b := by
  have := congrArg Int32.toNatClampNeg h
  rwa [nn_nat ha, nn_nat hb] at this
theorem im_k (a1 : Int32) : ∃ k, k < 4 ∧ ∀ k2, k2 < 4 → a1 = nn k2 → k2 = k := by
  by_cases h : ∃ k, k < 4 ∧ a1 = nn k
  · obtain ⟨k, hk, rfl⟩ := h
    exact ⟨k, hk, fun k2 h2 e => nn_inj9 (by omega) (by omega) e.symm⟩
  · exact ⟨0, by omega, fun k2 h2 e => absurd ⟨k2, h2, e⟩ h⟩
end

section
variable {p : Program} {l : Launch} {e : Env} {s : State} {m9 : MethodId} {below : List Frame} {meth : Method} {c9 : Code} {Q : State → Prop} {D : va_G} {A : Nat → Prop} {adK adV : Nat → Nat} {ad : Nat → Nat → Nat} {cy : Nat → Nat → ClassId} {ims pst : Nat → Option Nat} {b L i N : Nat} {xs : Nat → Int32} {bs : Nat → va_W} {H : Heap} {locs : List Loc} {cells slots : Nat} {ls : Array Slot}
set_option maxHeartbeats 8000000 in
set_option maxRecDepth 100000 in
theorem k_undo (C : Cx p m9 c9 s A D adK adV ad cy ims pst b L xs) (hi : i + 6 ≤ L) (T : Top D s ad cy ims pst N bs) (hP : va_P D vwCl (bW N bs) H) (hD : va_D A (bW N bs)) (hS : va_S A s.heap H locs) (hl : lv_has ls 4 (lvL ad b i)) (hf : cells + 8 ≤ 600000 ∧ slots + 13200 ≤ 7302250)
    (kk : ∀ (N : Nat) (bs : Nat → va_W) (H : Heap) (locs : List Loc), Top D s ad cy ims pst N bs → va_P D vwCl (bW N bs) H → va_D A (bW N bs) → va_S A s.heap H locs → W p l e room_1 s m9 #[.ref b] below meth c9 H locs (cells + 8) (slots + 13200) Q (F0 m9 1115 ls [])) : W p l e room_1 s m9 #[.ref b] below meth c9 H locs cells slots Q (F0 m9 555 ls []) := by
  obtain ⟨m, c, nx, tn, R, P, A0, rls, bytes, len, fo, x, notes, nh, nr, nm, hour, broken, rung, grip, want, slips, worn, tape, sign, clause, clauses, S, w, im, imF, imX, imM, hN, b0, hBT, b2, hBRR, hBN, b5, hBH, hBO, hB8, hBP, hBS, hB11, hSc, hPs, hIm, hRu, hBM, hTP, hm6, hof, hox⟩ := T
  obtain ⟨S9, hA, hbA, hbl, hX, hL9, hF, hE9, hV9⟩ := id C
  obtain ⟨hx, hb, hml, hown, hts⟩ := id S9
  obtain ⟨k0, kLL, kTp, kRR, kS4, kW5, kH, kO, kW8, kW11, kM, kIm, kPs⟩ := id hF
  have hf9 : cells ≤ room_1.cells ∧ slots ≤ room_1.slots := ⟨Nat.le_trans (Nat.le_add_right _ _) hf.1, Nat.le_trans (Nat.le_add_right _ _) hf.2⟩
  obtain ⟨lg, rd, nxt, wrg, num, txt, mde, dep, lns, opn, opd, stk, tp, wd, wil, mov, brk, kpt, bhr, far, que, qud, onw, mvp, mvk, isf, sth, drx, b46⟩ := id hBM
  obtain ⟨jl, lh, ly, ru, pe, sb, ro, str, wt, tol, srr, sww, g1, g2, g3, bl, kl, hI, hW, hL, hWT, hBg, hhr, hNo⟩ := id hSc
  subst g3
  obtain ⟨md, b4⟩ := id hBN
  obtain ⟨pq, ph, pb, pr, pg, pw, pz, pk, hpb, hRP, hpq⟩ := id hPs
  have hn20 := hRP.2.1
  obtain ⟨sx, hsxe⟩ : ∃ X, X = (if nx ≤ 0 then 19 else nx - 1) := ⟨_, rfl⟩
  have hsx : sx < 20 := by rw [hsxe]; split <;> omega
  rcases c with _ | c
  · skip
    refine lv_aload_n hx hb dL_law_555 rfl (lv_at hl 2 rfl) ?_
    obtain ⟨u0, hu0⟩ : ∃ X : va_W, X = cLL (ad 0) (cy 0) (ad 1 0) (ad 2 0) (ad 3 0) rls (nn m) ((ad 4) 0) ims pst (nn nx) (nn 0) (ad 6 0) (ad 7 0) (ad 9 0) (ad 10 0) := ⟨_, rfl⟩
    obtain ⟨u5, hu5⟩ : ∃ X : va_W, X = cW (ad 5) (cy 5) (lh 0) hour broken rung grip want slips worn := ⟨_, rfl⟩
    obtain ⟨Lc, hLc⟩ : ∃ X : List (Nat × List (ClassId × FieldType) × va_W × va_W), X = [(0, tLL (cy 0), bs 0, u0), (4, tSt (cy 4), bs 4, bs 4), (5, tW (cy 5), bs 5, u5), ((20 + sx), tW (cy (20 + sx)), bs (20 + sx), bs (20 + sx))] := ⟨_, rfl⟩
    have hnd : (Lc.map Prod.fst).Nodup := by rw [hLc]; show ([0, 4, 5, (20 + sx)] : List Nat).Nodup; simp only [List.nodup_cons, List.mem_cons, List.not_mem_nil, or_false, not_or, List.nodup_nil, and_true, not_false_eq_true] <;> omega
    have hlt : ∀ x ∈ Lc, x.1 < N := by rw [hLc]; exact List.forall_mem_cons.mpr ⟨show 0 < N by omega, List.forall_mem_cons.mpr ⟨show 4 < N by omega, List.forall_mem_cons.mpr ⟨show 5 < N by omega, List.forall_mem_cons.mpr ⟨show (20 + sx) < N by omega, fun _ h9 => absurd h9 List.not_mem_nil⟩⟩⟩⟩
    have hkL : ∀ x ∈ Lc, va_K D vwCl x.2.1 s := by rw [hLc]; exact List.forall_mem_cons.mpr ⟨kLL, List.forall_mem_cons.mpr ⟨kS4, List.forall_mem_cons.mpr ⟨kW5, List.forall_mem_cons.mpr ⟨(kPs sx hsx).1, fun _ h9 => absurd h9 List.not_mem_nil⟩⟩⟩⟩
    have hbL : ∀ x ∈ Lc, bs x.1 = x.2.2.1 := by rw [hLc]; exact List.forall_mem_cons.mpr ⟨rfl, List.forall_mem_cons.mpr ⟨rfl, List.forall_mem_cons.mpr ⟨rfl, List.forall_mem_cons.mpr ⟨rfl, fun _ h9 => absurd h9 List.not_mem_nil⟩⟩⟩⟩
    refine mbQ_i (As := []) (rest := []) Lc S9 k0 hP hD hS hA (c11_undo (l := l) (D := D) (ad_this := (ad 0)) (cy_this := (cy 0)) (z_this_tape := (ad 1 0)) (z_this_ladderReader := (ad 2 0)) (z_this_ruleReader := (ad 3 0)) (z_this_rules := rls) (z_this_ruleCount := (nn m)) (z_this_images := ims) (z_this_past := pst) (z_this_pastNext := (nn nx)) (z_this_pastCount := (nn 0)) (z_this_hours := (ad 6 0)) (z_this_outlook := (ad 7 0)) (z_this_paths := (ad 9 0)) (z_this_siege := (ad 10 0)) (ad_this_now := (ad 4)) (cy_this_now := (cy 4)) (z_this_now_force := fo) (z_this_now_x := x) (z_this_now_notes := notes) (z_this_now_noteHour := nh) (z_this_now_noteRung := nr) (z_this_now_noteMany := nm) (z_this_now_made := md) (ad_this_now_world := (ad 5)) (cy_this_now_world := (cy 5)) (z_this_now_world_ladder := (lh 0)) (z_this_now_world_hour := hour) (z_this_now_world_broken := broken) (z_this_now_world_rung := rung) (z_this_now_world_grip := grip) (z_this_now_world_want := want) (z_this_now_world_slips := slips) (z_this_now_world_worn := worn) (ad_this_pastAt := (ad (20 + sx))) (cy_this_pastAt := (cy (20 + sx))) (z_this_pastAt_ladder := (pq sx)) (z_this_pastAt_hour := (ph sx)) (z_this_pastAt_broken := (pb sx)) (z_this_pastAt_rung := (pr sx)) (z_this_pastAt_grip := (pg sx)) (z_this_pastAt_want := (pw sx)) (z_this_pastAt_slips := (pz sx)) (z_this_pastAt_worn := (pk sx)) (o_ret := (-1)) (o_this_pastNext := (nn nx)) (o_this_pastCount := (nn 0)) (o_this_now_world_hour := hour) (o_this_now_world_broken := broken) (o_this_now_world_rung := rung) (o_this_now_world_grip := grip) (o_this_now_world_want := want) (o_this_now_world_slips := slips) (o_this_now_world_worn := worn) (o_link_this_now_world := (lh 0)) rfl) hnd hlt hkL hbL (by rw [hLc]; rfl) (by rw [hLc]; simp only [List.flatMap_cons, List.flatMap_nil, List.append_nil, List.append_assoc]; rw [b0, b4, b5, (hpb sx hsx)]) (by rw [hLc]; simp only [List.flatMap_cons, List.flatMap_nil, List.append_nil, List.append_assoc]; rw [hu0, b4, hu5, (hpb sx hsx)]) (gdV mw_43_1 mw_43_2 mw_43_3 mw_1_2 mw_43_4) rfl rfl hd_f11_undo ⟨Nat.le_of_ble_eq_true rfl, Nat.le_of_ble_eq_true rfl⟩ (ci := 11) (q0 := 0) rfl rfl rfl hl.1 rfl (Nat.le_of_ble_eq_true rfl) dL_law_556 hf9 (fun H locs hP hD hS => ?_)
    obtain ⟨bc, hbc⟩ : ∃ X, X = bsetL bs Lc := ⟨_, rfl⟩
    rw [← hbc] at hP hD
    have t0 : bc 0 = u0 := by rw [hbc]; exact bsetL_at (x := (0, tLL (cy 0), bs 0, u0)) hnd (by rw [hLc]; exact List.mem_of_getElem? (i := 0) rfl)
    have t1 : bc 4 = bs 4 := by rw [hbc]; exact bsetL_at (x := (4, tSt (cy 4), bs 4, bs 4)) hnd (by rw [hLc]; exact List.mem_of_getElem? (i := 1) rfl)
    have t2 : bc 5 = u5 := by rw [hbc]; exact bsetL_at (x := (5, tW (cy 5), bs 5, u5)) hnd (by rw [hLc]; exact List.mem_of_getElem? (i := 2) rfl)
    have t3 : bc (20 + sx) = bs (20 + sx) := by rw [hbc]; exact bsetL_at (x := ((20 + sx), tW (cy (20 + sx)), bs (20 + sx), bs (20 + sx))) hnd (by rw [hLc]; exact List.mem_of_getElem? (i := 3) rfl)
    have E1 : ∀ j, (j ≠ 0 ∧ j ≠ 5) → bc j = bs j := by
      intro j hj
      by_cases q1 : j = 4
      · rw [q1]; exact t1
      by_cases q3 : j = (20 + sx)
      · rw [q3]; exact t3
      rw [hbc]
      exact bsetL_ne (by rw [hLc]; show j ∉ ([0, 4, 5, (20 + sx)] : List Nat); simp only [List.mem_cons, List.not_mem_nil, or_false, not_or]; omega)
    refine lv_aload_n hx hb dL_law_559 rfl (lv_at hl 1 rfl) ?_
    obtain ⟨um, hum⟩ : ∃ X : va_W, X = (cM (ad 46) (cy 46) tape len (nn m) sign lg clause clauses rd nxt wrg num txt mde dep lns opn opd stk tp wd S fo x wil mov brk w (nn 0) kpt bhr far que qud onw mvp mvk isf sth drx im imF imX imM) := ⟨_, rfl⟩
    have bm : bc 46 = _ := (E1 46 (by omega)).trans b46
    obtain ⟨Lm, hLm⟩ : ∃ X : List (Nat × List (ClassId × FieldType) × va_W × va_W), X = [(46, tM (cy 46), bc 46, um)] := ⟨_, rfl⟩
    have hnm : (Lm.map Prod.fst).Nodup := by rw [hLm]; show ([46] : List Nat).Nodup; decide
    refine mbQ_i (As := []) (rest := [.int (-1)]) Lm S9 k0 hP hD hS hA (c12_undo (l := l) (D := D) (ad := (ad 46)) (cy := (cy 46)) (z_tape := tape) (z_taped := len) (z_rules := (nn m)) (z_sign := sign) (z_length := lg) (z_clause := clause) (z_clauses := clauses) (z_read := rd) (z_next := nxt) (z_wrong := wrg) (z_number := num) (z_text := txt) (z_made := mde) (z_deep := dep) (z_lines := lns) (z_open := opn) (z_opened := opd) (z_stack := stk) (z_top := tp) (z_word := wd) (z_said := S) (z_force := fo) (z_x := x) (z_will := wil) (z_moved := mov) (z_broke := brk) (z_wasSaid := w) (z_undone := (nn 0)) (z_kept := kpt) (z_breakHour := bhr) (z_far := far) (z_queue := que) (z_queued := qud) (z_isOnWay := onw) (z_movePerson := mvp) (z_moveKind := mvk) (z_isFit := isf) (z_standThen := sth) (z_drawX := drx) (z_images := im) (z_imageForce := imF) (z_imageX := imX) (z_isMade := imM) (o_ret := (-1)) (o_said := S) (o_undone := (nn 0)) rfl) hnm (by rw [hLm]; exact List.forall_mem_cons.mpr ⟨show 46 < N by omega, fun _ h9 => absurd h9 List.not_mem_nil⟩) (by rw [hLm]; exact List.forall_mem_cons.mpr ⟨kM, fun _ h9 => absurd h9 List.not_mem_nil⟩) (by rw [hLm]; exact List.forall_mem_cons.mpr ⟨rfl, fun _ h9 => absurd h9 List.not_mem_nil⟩) (by rw [hLm]; rfl) (by rw [hLm]; simp only [List.flatMap_cons, List.flatMap_nil, List.append_nil, List.append_assoc]; rw [bm]) (by rw [hLm]; simp only [List.flatMap_cons, List.flatMap_nil, List.append_nil, List.append_assoc]; rw [hum]) (gdV mw_43_5 mw_43_6 mw_43_7 mw_1_5 mw_43_8) rfl rfl hd_f12_undo ⟨Nat.le_of_ble_eq_true rfl, Nat.le_of_ble_eq_true rfl⟩ (ci := 12) (q0 := 0) rfl rfl rfl hl.1 rfl (Nat.le_of_ble_eq_true rfl) dL_law_560 hf9 (fun H locs hP hD hS => ?_)
    obtain ⟨bn, hbn⟩ : ∃ X, X = bsetL bc Lm := ⟨_, rfl⟩
    rw [← hbn] at hP hD
    have tm : bn 46 = um := by rw [hbn]; exact bsetL_at (x := (46, tM (cy 46), bc 46, um)) hnm (by rw [hLm]; exact List.mem_of_getElem? (i := 0) rfl)
    have E2 : ∀ j, j ≠ 46 → bn j = bc j := by
      intro j hj
      rw [hbn]
      exact bsetL_ne (by rw [hLm]; show j ∉ ([46] : List Nat); simp only [List.mem_cons, List.not_mem_nil, or_false]; exact hj)
    have E : ∀ j, (j ≠ 46 ∧ j ≠ 0 ∧ j ≠ 5) → bn j = bs j := fun j hj => (E2 j (by omega)).trans (E1 j (by omega))
    have s0 : bn 0 = u0 := (E2 _ (by omega)).trans t0
    have s2 : bn 5 = u5 := (E2 _ (by omega)).trans t2
    refine lv_icmp_eq (tgt := 1115) hx hb dL_law_563 rfl (fun _ => ?_) (fun c8 => absurd rfl c8)
    refine W.widen (k := cells + 8) (n := slots + 13200) (Nat.le_add_right _ _) (Nat.le_add_right _ _) ?_
    have EL : ∀ j, 47 ≤ j → j < N → bn j = bs j := fun j h1 h2 => E j (by omega)
    exact kk N bn H locs ⟨m, 0, nx, tn, R, P, (lh 0), rls, bytes, len, fo, x, notes, nh, nr, nm, hour, broken, rung, grip, want, slips, worn, tape, sign, clause, clauses, S, w, im, imF, imX, imM, hN, (s0.trans hu0), hBT.congr (E 1 (by omega)), (E 2 (by omega)).trans b2, hBRR.congr (E 3 (by omega)), hBN.congr (E 4 (by omega)), (s2.trans hu5), hBH.congr (E 6 (by omega)), hBO.congr (E 7 (by omega)), hB8.congr (E 8 (by omega)), hBP.congr (E 9 (by omega)), hBS.congr (E 10 (by omega)), hB11.congr (E 11 (by omega)), hSc.congr (Nat.le_refl _) EL, hPs.congr (fun k hk => E _ (by omega)), hIm.congr (Nat.le_refl _) (Nat.le_refl _) (fun k hk => E _ (by omega)) EL, hRu.congr (fun j hj => E _ (by omega)) hm6, ⟨_, _, _, _, _, _, _, _, _, _, _, _, _, _, _, _, _, _, _, _, _, _, _, _, _, _, _, _, tm.trans hum⟩, hTP, hm6, hof, hox⟩ hP hD hS
  · skip
    have hq9 := hpq c (by omega)
    rw [sl_last hn20 hRP.1, ← hsxe] at hq9
    obtain ⟨r9, g9, w9, s9, k9, S1, hc, hm, hW1, hI1, hSt, hR1⟩ := r_undo_s (pst := pst) (hour := hour) (broken := broken) (rung := rung) (grip := grip) (want := want) (slips := slips) (worn := worn) (qn := lh 0) (qp := pq sx) hRP (pa := ad (20 + sx) 0) (by rw [← hsxe]; exact (kPs sx hsx).2)
    rw [← hsxe] at hc hW1 hR1
    rw [hq9.1] at hc
    have bq := (hpb sx hsx).trans (by rw [hq9.1])
    refine lv_aload_n hx hb dL_law_555 rfl (lv_at hl 2 rfl) ?_
    obtain ⟨u0, hu0⟩ : ∃ X : va_W, X = cLL (ad 0) (cy 0) (ad 1 0) (ad 2 0) (ad 3 0) rls (nn m) ((ad 4) 0) ims pst (nn sx) (nn c) (ad 6 0) (ad 7 0) (ad 9 0) (ad 10 0) := ⟨_, rfl⟩
    obtain ⟨u5, hu5⟩ : ∃ X : va_W, X = cW (ad 5) (cy 5) (lh 0) (ph sx) (pb sx) r9 g9 w9 s9 k9 := ⟨_, rfl⟩
    obtain ⟨Lc, hLc⟩ : ∃ X : List (Nat × List (ClassId × FieldType) × va_W × va_W), X = [(0, tLL (cy 0), bs 0, u0), (4, tSt (cy 4), bs 4, bs 4), (5, tW (cy 5), bs 5, u5), ((20 + sx), tW (cy (20 + sx)), bs (20 + sx), bs (20 + sx))] := ⟨_, rfl⟩
    have hnd : (Lc.map Prod.fst).Nodup := by rw [hLc]; show ([0, 4, 5, (20 + sx)] : List Nat).Nodup; simp only [List.nodup_cons, List.mem_cons, List.not_mem_nil, or_false, not_or, List.nodup_nil, and_true, not_false_eq_true] <;> omega
    have hlt : ∀ x ∈ Lc, x.1 < N := by rw [hLc]; exact List.forall_mem_cons.mpr ⟨show 0 < N by omega, List.forall_mem_cons.mpr ⟨show 4 < N by omega, List.forall_mem_cons.mpr ⟨show 5 < N by omega, List.forall_mem_cons.mpr ⟨show (20 + sx) < N by omega, fun _ h9 => absurd h9 List.not_mem_nil⟩⟩⟩⟩
    have hkL : ∀ x ∈ Lc, va_K D vwCl x.2.1 s := by rw [hLc]; exact List.forall_mem_cons.mpr ⟨kLL, List.forall_mem_cons.mpr ⟨kS4, List.forall_mem_cons.mpr ⟨kW5, List.forall_mem_cons.mpr ⟨(kPs sx hsx).1, fun _ h9 => absurd h9 List.not_mem_nil⟩⟩⟩⟩
    have hbL : ∀ x ∈ Lc, bs x.1 = x.2.2.1 := by rw [hLc]; exact List.forall_mem_cons.mpr ⟨rfl, List.forall_mem_cons.mpr ⟨rfl, List.forall_mem_cons.mpr ⟨rfl, List.forall_mem_cons.mpr ⟨rfl, fun _ h9 => absurd h9 List.not_mem_nil⟩⟩⟩⟩
    refine mbQ_i (As := []) (rest := []) Lc S9 k0 hP hD hS hA (c11_undo (l := l) (D := D) (ad_this := (ad 0)) (cy_this := (cy 0)) (z_this_tape := (ad 1 0)) (z_this_ladderReader := (ad 2 0)) (z_this_ruleReader := (ad 3 0)) (z_this_rules := rls) (z_this_ruleCount := (nn m)) (z_this_images := ims) (z_this_past := pst) (z_this_pastNext := (nn nx)) (z_this_pastCount := (nn (c + 1))) (z_this_hours := (ad 6 0)) (z_this_outlook := (ad 7 0)) (z_this_paths := (ad 9 0)) (z_this_siege := (ad 10 0)) (ad_this_now := (ad 4)) (cy_this_now := (cy 4)) (z_this_now_force := fo) (z_this_now_x := x) (z_this_now_notes := notes) (z_this_now_noteHour := nh) (z_this_now_noteRung := nr) (z_this_now_noteMany := nm) (z_this_now_made := md) (ad_this_now_world := (ad 5)) (cy_this_now_world := (cy 5)) (z_this_now_world_ladder := (lh 0)) (z_this_now_world_hour := hour) (z_this_now_world_broken := broken) (z_this_now_world_rung := rung) (z_this_now_world_grip := grip) (z_this_now_world_want := want) (z_this_now_world_slips := slips) (z_this_now_world_worn := worn) (ad_this_pastAt := (ad (20 + sx))) (cy_this_pastAt := (cy (20 + sx))) (z_this_pastAt_ladder := (lh 0)) (z_this_pastAt_hour := (ph sx)) (z_this_pastAt_broken := (pb sx)) (z_this_pastAt_rung := (pr sx)) (z_this_pastAt_grip := (pg sx)) (z_this_pastAt_want := (pw sx)) (z_this_pastAt_slips := (pz sx)) (z_this_pastAt_worn := (pk sx)) (o_ret := (nn c)) (o_this_pastNext := (nn sx)) (o_this_pastCount := (nn c)) (o_this_now_world_hour := (ph sx)) (o_this_now_world_broken := (pb sx)) (o_this_now_world_rung := r9) (o_this_now_world_grip := g9) (o_this_now_world_want := w9) (o_this_now_world_slips := s9) (o_this_now_world_worn := k9) (o_link_this_now_world := (lh 0)) hc) hnd hlt hkL hbL (by rw [hLc]; rfl) (by rw [hLc]; simp only [List.flatMap_cons, List.flatMap_nil, List.append_nil, List.append_assoc]; rw [b0, b4, b5, bq]) (by rw [hLc]; simp only [List.flatMap_cons, List.flatMap_nil, List.append_nil, List.append_assoc]; rw [hu0, b4, hu5, bq]) (gdV mw_43_1 mw_43_2 mw_43_3 mw_1_2 mw_43_4) rfl rfl hd_f11_undo ⟨Nat.le_of_ble_eq_true rfl, Nat.le_of_ble_eq_true rfl⟩ (ci := 11) (q0 := 0) rfl rfl rfl hl.1 rfl (Nat.le_of_ble_eq_true rfl) dL_law_556 hf9 (fun H locs hP hD hS => ?_)
    obtain ⟨bc, hbc⟩ : ∃ X, X = bsetL bs Lc := ⟨_, rfl⟩
    rw [← hbc] at hP hD
    have t0 : bc 0 = u0 := by rw [hbc]; exact bsetL_at (x := (0, tLL (cy 0), bs 0, u0)) hnd (by rw [hLc]; exact List.mem_of_getElem? (i := 0) rfl)
    have t1 : bc 4 = bs 4 := by rw [hbc]; exact bsetL_at (x := (4, tSt (cy 4), bs 4, bs 4)) hnd (by rw [hLc]; exact List.mem_of_getElem? (i := 1) rfl)
    have t2 : bc 5 = u5 := by rw [hbc]; exact bsetL_at (x := (5, tW (cy 5), bs 5, u5)) hnd (by rw [hLc]; exact List.mem_of_getElem? (i := 2) rfl)
    have t3 : bc (20 + sx) = bs (20 + sx) := by rw [hbc]; exact bsetL_at (x := ((20 + sx), tW (cy (20 + sx)), bs (20 + sx), bs (20 + sx))) hnd (by rw [hLc]; exact List.mem_of_getElem? (i := 3) rfl)
    have E1 : ∀ j, (j ≠ 0 ∧ j ≠ 5) → bc j = bs j := by
      intro j hj
      by_cases q1 : j = 4
      · rw [q1]; exact t1
      by_cases q3 : j = (20 + sx)
      · rw [q3]; exact t3
      rw [hbc]
      exact bsetL_ne (by rw [hLc]; show j ∉ ([0, 4, 5, (20 + sx)] : List Nat); simp only [List.mem_cons, List.not_mem_nil, or_false, not_or]; omega)
    refine lv_aload_n hx hb dL_law_559 rfl (lv_at hl 1 rfl) ?_
    obtain ⟨um, hum⟩ : ∃ X : va_W, X = (cM (ad 46) (cy 46) tape len (nn m) sign lg clause clauses rd nxt wrg num txt mde dep lns opn opd stk tp wd S1 fo x wil mov brk w (nn c) kpt bhr far que qud onw mvp mvk isf sth drx im imF imX imM) := ⟨_, rfl⟩
    have bm : bc 46 = _ := (E1 46 (by omega)).trans b46
    obtain ⟨Lm, hLm⟩ : ∃ X : List (Nat × List (ClassId × FieldType) × va_W × va_W), X = [(46, tM (cy 46), bc 46, um)] := ⟨_, rfl⟩
    have hnm : (Lm.map Prod.fst).Nodup := by rw [hLm]; show ([46] : List Nat).Nodup; decide
    refine mbQ_i (As := []) (rest := [.int (nn c)]) Lm S9 k0 hP hD hS hA (c12_undo (l := l) (D := D) (ad := (ad 46)) (cy := (cy 46)) (z_tape := tape) (z_taped := len) (z_rules := (nn m)) (z_sign := sign) (z_length := lg) (z_clause := clause) (z_clauses := clauses) (z_read := rd) (z_next := nxt) (z_wrong := wrg) (z_number := num) (z_text := txt) (z_made := mde) (z_deep := dep) (z_lines := lns) (z_open := opn) (z_opened := opd) (z_stack := stk) (z_top := tp) (z_word := wd) (z_said := S) (z_force := fo) (z_x := x) (z_will := wil) (z_moved := mov) (z_broke := brk) (z_wasSaid := w) (z_undone := (nn (c + 1))) (z_kept := kpt) (z_breakHour := bhr) (z_far := far) (z_queue := que) (z_queued := qud) (z_isOnWay := onw) (z_movePerson := mvp) (z_moveKind := mvk) (z_isFit := isf) (z_standThen := sth) (z_drawX := drx) (z_images := im) (z_imageForce := imF) (z_imageX := imX) (z_isMade := imM) (o_ret := (nn c)) (o_said := S1) (o_undone := (nn c)) hm) hnm (by rw [hLm]; exact List.forall_mem_cons.mpr ⟨show 46 < N by omega, fun _ h9 => absurd h9 List.not_mem_nil⟩) (by rw [hLm]; exact List.forall_mem_cons.mpr ⟨kM, fun _ h9 => absurd h9 List.not_mem_nil⟩) (by rw [hLm]; exact List.forall_mem_cons.mpr ⟨rfl, fun _ h9 => absurd h9 List.not_mem_nil⟩) (by rw [hLm]; rfl) (by rw [hLm]; simp only [List.flatMap_cons, List.flatMap_nil, List.append_nil, List.append_assoc]; rw [bm]) (by rw [hLm]; simp only [List.flatMap_cons, List.flatMap_nil, List.append_nil, List.append_assoc]; rw [hum]) (gdV mw_43_5 mw_43_6 mw_43_7 mw_1_5 mw_43_8) rfl rfl hd_f12_undo ⟨Nat.le_of_ble_eq_true rfl, Nat.le_of_ble_eq_true rfl⟩ (ci := 12) (q0 := 0) rfl rfl rfl hl.1 rfl (Nat.le_of_ble_eq_true rfl) dL_law_560 hf9 (fun H locs hP hD hS => ?_)
    obtain ⟨bn, hbn⟩ : ∃ X, X = bsetL bc Lm := ⟨_, rfl⟩
    rw [← hbn] at hP hD
    have tm : bn 46 = um := by rw [hbn]; exact bsetL_at (x := (46, tM (cy 46), bc 46, um)) hnm (by rw [hLm]; exact List.mem_of_getElem? (i := 0) rfl)
    have E2 : ∀ j, j ≠ 46 → bn j = bc j := by
      intro j hj
      rw [hbn]
      exact bsetL_ne (by rw [hLm]; show j ∉ ([46] : List Nat); simp only [List.mem_cons, List.not_mem_nil, or_false]; exact hj)
    have E : ∀ j, (j ≠ 46 ∧ j ≠ 0 ∧ j ≠ 5) → bn j = bs j := fun j hj => (E2 j (by omega)).trans (E1 j (by omega))
    have s0 : bn 0 = u0 := (E2 _ (by omega)).trans t0
    have s2 : bn 5 = u5 := (E2 _ (by omega)).trans t2
    refine lv_icmp_eq (tgt := 1115) hx hb dL_law_563 rfl (fun _ => ?_) (fun c8 => absurd rfl c8)
    refine W.widen (k := cells + 8) (n := slots + 13200) (Nat.le_add_right _ _) (Nat.le_add_right _ _) ?_
    have EL : ∀ j, 47 ≤ j → j < N → bn j = bs j := fun j h1 h2 => E j (by omega)
    exact kk N bn H locs ⟨m, c, sx, tn, R, P, (lh 0), rls, bytes, len, fo, x, notes, nh, nr, nm, (ph sx), (pb sx), r9, g9, w9, s9, k9, tape, sign, clause, clauses, S1, w, im, imF, imX, imM, hN, (s0.trans hu0), hBT.congr (E 1 (by omega)), (E 2 (by omega)).trans b2, hBRR.congr (E 3 (by omega)), hBN.congr (E 4 (by omega)), (s2.trans hu5), hBH.congr (E 6 (by omega)), hBO.congr (E 7 (by omega)), hB8.congr (E 8 (by omega)), hBP.congr (E 9 (by omega)), hBS.congr (E 10 (by omega)), hB11.congr (E 11 (by omega)), (hSc.act hW1 hI1 hSt hq9.2).congr (Nat.le_refl _) EL, hPs.down (fun k hk => E _ (by omega)) hsxe hSt, hIm.congr (Nat.le_refl _) (Nat.le_refl _) (fun k hk => E _ (by omega)) EL, hRu.congr (fun j hj => E _ (by omega)) hm6, ⟨_, _, _, _, _, _, _, _, _, _, _, _, _, _, _, _, _, _, _, _, _, _, _, _, _, _, _, _, tm.trans hum⟩, hTP, hm6, hof, hox⟩ hP hD hS

set_option maxHeartbeats 8000000 in
set_option maxRecDepth 100000 in
theorem k_image (C : Cx p m9 c9 s A D adK adV ad cy ims pst b L xs) (hi : i + 6 ≤ L) (T : Top D s ad cy ims pst N bs) (hP : va_P D vwCl (bW N bs) H) (hD : va_D A (bW N bs)) (hS : va_S A s.heap H locs) (hl : lv_has ls 4 (lvL ad b i)) (hf : cells + 8 ≤ 600000 ∧ slots + 13200 ≤ 7302250)
    (kk : ∀ (N : Nat) (bs : Nat → va_W) (H : Heap) (locs : List Loc), Top D s ad cy ims pst N bs → va_P D vwCl (bW N bs) H → va_D A (bW N bs) → va_S A s.heap H locs → W p l e room_1 s m9 #[.ref b] below meth c9 H locs (cells + 8) (slots + 13200) Q (F0 m9 1115 ls [])) : W p l e room_1 s m9 #[.ref b] below meth c9 H locs cells slots Q (F0 m9 1069 ls []) := by
  obtain ⟨m, c, nx, tn, R, P, A0, rls, bytes, len, fo, x, notes, nh, nr, nm, hour, broken, rung, grip, want, slips, worn, tape, sign, clause, clauses, S, w, im, imF, imX, imM, hN, b0, hBT, b2, hBRR, hBN, b5, hBH, hBO, hB8, hBP, hBS, hB11, hSc, hPs, hIm, hRu, hBM, hTP, hm6, hof, hox⟩ := T
  obtain ⟨S9, hA, hbA, hbl, hX, hL9, hF, hE9, hV9⟩ := id C
  obtain ⟨hx, hb, hml, hown, hts⟩ := id S9
  obtain ⟨k0, kLL, kTp, kRR, kS4, kW5, kH, kO, kW8, kW11, kM, kIm, kPs⟩ := id hF
  have hf9 : cells ≤ room_1.cells ∧ slots ≤ room_1.slots := ⟨Nat.le_trans (Nat.le_add_right _ _) hf.1, Nat.le_trans (Nat.le_add_right _ _) hf.2⟩
  obtain ⟨lg, rd, nxt, wrg, num, txt, mde, dep, lns, opn, opd, stk, tp, wd, wil, mov, brk, kpt, bhr, far, que, qud, onw, mvp, mvk, isf, sth, drx, b46⟩ := id hBM
  obtain ⟨jl, lh, ly, ru, pe, sb, ro, str, wt, tol, srr, sww, g1, g2, g3, bl, kl, hI, hW, hL, hWT, hBg, hhr, hNo⟩ := id hSc
  subst g3
  obtain ⟨md, b4⟩ := id hBN
  obtain ⟨k, hk, hku⟩ := im_k (xs (i + 1))
  obtain ⟨iq, ifo, ix, ino, inh, inr, inm, imd, ih, ib, ir, ig, iw, iz, ik, bi1, bi2, himd, himr⟩ := hIm k hk
  rcases r_image (ims := ims) (pa := ad (12 + k) 0) (qi := iq) (qn := lh 0) (S := S) (im := im) (imF := imF) (imX := imX) (imM := imM) (ifo := ifo) (ix := ix) (ino := ino) (inh := inh) (inr := inr) (inm := inm) (imd := imd) (ih := ih) (ib := ib) (ir := ir) (ig := ig) (iw := iw) (is_ := iz) (ik := ik) (fo := fo) (x := x) hW hNo (xs (i + 1)) (fun k2 h1 h2 => by rw [hku k2 h1 h2]; exact (kIm k hk).2.2) with ⟨hc, hm⟩ | ⟨k2, nh1, nr1, nm1, r9, g9, w9, s9, k9, h4, hak, hc, hm, hW1, hN1⟩
  · skip
    refine lv_aload_n hx hb dL_law_1069 rfl (lv_at hl 2 rfl) ?_
    refine ld1 C hS hl hi dL_law_1070 dL_law_1071 dL_law_1072 dL_law_1073 dL_law_1074 ?_
    obtain ⟨u12k, hu12k⟩ : ∃ X : va_W, X = cSt (ad (12 + k)) (cy (12 + k)) ((ad (16 + k)) 0) ifo ix ino inh inr inm imd := ⟨_, rfl⟩
    obtain ⟨u16k, hu16k⟩ : ∃ X : va_W, X = cW (ad (16 + k)) (cy (16 + k)) iq ih ib ir ig iw iz ik := ⟨_, rfl⟩
    obtain ⟨Lc, hLc⟩ : ∃ X : List (Nat × List (ClassId × FieldType) × va_W × va_W), X = [(0, tLL (cy 0), bs 0, bs 0), ((12 + k), tSt (cy (12 + k)), bs (12 + k), u12k), ((16 + k), tW (cy (16 + k)), bs (16 + k), u16k), (4, tSt (cy 4), bs 4, bs 4), (5, tW (cy 5), bs 5, bs 5)] := ⟨_, rfl⟩
    have hnd : (Lc.map Prod.fst).Nodup := by rw [hLc]; show ([0, (12 + k), (16 + k), 4, 5] : List Nat).Nodup; simp only [List.nodup_cons, List.mem_cons, List.not_mem_nil, or_false, not_or, List.nodup_nil, and_true, not_false_eq_true] <;> omega
    have hlt : ∀ x ∈ Lc, x.1 < N := by rw [hLc]; exact List.forall_mem_cons.mpr ⟨show 0 < N by omega, List.forall_mem_cons.mpr ⟨show (12 + k) < N by omega, List.forall_mem_cons.mpr ⟨show (16 + k) < N by omega, List.forall_mem_cons.mpr ⟨show 4 < N by omega, List.forall_mem_cons.mpr ⟨show 5 < N by omega, fun _ h9 => absurd h9 List.not_mem_nil⟩⟩⟩⟩⟩
    have hkL : ∀ x ∈ Lc, va_K D vwCl x.2.1 s := by rw [hLc]; exact List.forall_mem_cons.mpr ⟨kLL, List.forall_mem_cons.mpr ⟨(kIm k hk).1, List.forall_mem_cons.mpr ⟨(kIm k hk).2.1, List.forall_mem_cons.mpr ⟨kS4, List.forall_mem_cons.mpr ⟨kW5, fun _ h9 => absurd h9 List.not_mem_nil⟩⟩⟩⟩⟩
    have hbL : ∀ x ∈ Lc, bs x.1 = x.2.2.1 := by rw [hLc]; exact List.forall_mem_cons.mpr ⟨rfl, List.forall_mem_cons.mpr ⟨rfl, List.forall_mem_cons.mpr ⟨rfl, List.forall_mem_cons.mpr ⟨rfl, List.forall_mem_cons.mpr ⟨rfl, fun _ h9 => absurd h9 List.not_mem_nil⟩⟩⟩⟩⟩
    refine mbQ_i (As := [.int (xs (i + 1))]) (rest := []) Lc S9 k0 hP hD hS hA (c11_image (l := l) (D := D) (ad_this := (ad 0)) (cy_this := (cy 0)) (z_this_tape := (ad 1 0)) (z_this_ladderReader := (ad 2 0)) (z_this_ruleReader := (ad 3 0)) (z_this_rules := rls) (z_this_ruleCount := (nn m)) (z_this_images := ims) (z_this_past := pst) (z_this_pastNext := (nn nx)) (z_this_pastCount := (nn c)) (z_this_hours := (ad 6 0)) (z_this_outlook := (ad 7 0)) (z_this_paths := (ad 9 0)) (z_this_siege := (ad 10 0)) (ad_this_imagesAt := (ad (12 + k))) (cy_this_imagesAt := (cy (12 + k))) (z_this_imagesAt_force := ifo) (z_this_imagesAt_x := ix) (z_this_imagesAt_notes := ino) (z_this_imagesAt_noteHour := inh) (z_this_imagesAt_noteRung := inr) (z_this_imagesAt_noteMany := inm) (z_this_imagesAt_made := imd) (ad_this_imagesAt_world := (ad (16 + k))) (cy_this_imagesAt_world := (cy (16 + k))) (z_this_imagesAt_world_ladder := iq) (z_this_imagesAt_world_hour := ih) (z_this_imagesAt_world_broken := ib) (z_this_imagesAt_world_rung := ir) (z_this_imagesAt_world_grip := ig) (z_this_imagesAt_world_want := iw) (z_this_imagesAt_world_slips := iz) (z_this_imagesAt_world_worn := ik) (ad_this_now := (ad 4)) (cy_this_now := (cy 4)) (z_this_now_force := fo) (z_this_now_x := x) (z_this_now_notes := notes) (z_this_now_noteHour := nh) (z_this_now_noteRung := nr) (z_this_now_noteMany := nm) (z_this_now_made := md) (ad_this_now_world := (ad 5)) (cy_this_now_world := (cy 5)) (z_this_now_world_ladder := (lh 0)) (z_this_now_world_hour := hour) (z_this_now_world_broken := broken) (z_this_now_world_rung := rung) (z_this_now_world_grip := grip) (z_this_now_world_want := want) (z_this_now_world_slips := slips) (z_this_now_world_worn := worn) (a1 := (xs (i + 1))) (o_ret := (-1)) (o_this_imagesAt_force := ifo) (o_this_imagesAt_x := ix) (o_this_imagesAt_notes := ino) (o_this_imagesAt_noteHour := inh) (o_this_imagesAt_noteRung := inr) (o_this_imagesAt_noteMany := inm) (o_this_imagesAt_made := imd) (o_this_imagesAt_world_hour := ih) (o_this_imagesAt_world_broken := ib) (o_this_imagesAt_world_rung := ir) (o_this_imagesAt_world_grip := ig) (o_this_imagesAt_world_want := iw) (o_this_imagesAt_world_slips := iz) (o_this_imagesAt_world_worn := ik) (o_link_this_imagesAt_world := iq) hc) hnd hlt hkL hbL (by rw [hLc]; rfl) (by rw [hLc]; simp only [List.flatMap_cons, List.flatMap_nil, List.append_nil, List.append_assoc]; rw [b0, bi1, bi2, b4, b5]) (by rw [hLc]; simp only [List.flatMap_cons, List.flatMap_nil, List.append_nil, List.append_assoc]; rw [b0, hu12k, hu16k, b4, b5]) (gdV mw_63_22 mw_63_23 mw_64_0 mw_1_2 mw_64_1) rfl rfl hd_f11_image ⟨Nat.le_of_ble_eq_true rfl, Nat.le_of_ble_eq_true rfl⟩ (ci := 11) (q0 := 0) rfl rfl rfl hl.1 rfl (Nat.le_of_ble_eq_true rfl) dL_law_1075 hf9 (fun H locs hP hD hS => ?_)
    obtain ⟨bc, hbc⟩ : ∃ X, X = bsetL bs Lc := ⟨_, rfl⟩
    rw [← hbc] at hP hD
    have t0 : bc 0 = bs 0 := by rw [hbc]; exact bsetL_at (x := (0, tLL (cy 0), bs 0, bs 0)) hnd (by rw [hLc]; exact List.mem_of_getElem? (i := 0) rfl)
    have t1 : bc (12 + k) = u12k := by rw [hbc]; exact bsetL_at (x := ((12 + k), tSt (cy (12 + k)), bs (12 + k), u12k)) hnd (by rw [hLc]; exact List.mem_of_getElem? (i := 1) rfl)
    have t2 : bc (16 + k) = u16k := by rw [hbc]; exact bsetL_at (x := ((16 + k), tW (cy (16 + k)), bs (16 + k), u16k)) hnd (by rw [hLc]; exact List.mem_of_getElem? (i := 2) rfl)
    have t3 : bc 4 = bs 4 := by rw [hbc]; exact bsetL_at (x := (4, tSt (cy 4), bs 4, bs 4)) hnd (by rw [hLc]; exact List.mem_of_getElem? (i := 3) rfl)
    have t4 : bc 5 = bs 5 := by rw [hbc]; exact bsetL_at (x := (5, tW (cy 5), bs 5, bs 5)) hnd (by rw [hLc]; exact List.mem_of_getElem? (i := 4) rfl)
    have E1 : ∀ j, (j ≠ (12 + k) ∧ j ≠ (16 + k)) → bc j = bs j := by
      intro j hj
      by_cases q0 : j = 0
      · rw [q0]; exact t0
      by_cases q3 : j = 4
      · rw [q3]; exact t3
      by_cases q4 : j = 5
      · rw [q4]; exact t4
      rw [hbc]
      exact bsetL_ne (by rw [hLc]; show j ∉ ([0, (12 + k), (16 + k), 4, 5] : List Nat); simp only [List.mem_cons, List.not_mem_nil, or_false, not_or]; omega)
    refine lv_aload_n hx hb dL_law_1078 rfl (lv_at hl 1 rfl) ?_
    refine ld1 C hS hl hi dL_law_1079 dL_law_1080 dL_law_1081 dL_law_1082 dL_law_1083 ?_
    obtain ⟨um, hum⟩ : ∃ X : va_W, X = (cM (ad 46) (cy 46) tape len (nn m) sign lg clause clauses rd nxt wrg num txt mde dep lns opn opd stk tp wd S fo x wil mov brk w (nn c) kpt bhr far que qud onw mvp mvk isf sth drx im imF imX imM) := ⟨_, rfl⟩
    have bm : bc 46 = _ := (E1 46 (by omega)).trans b46
    obtain ⟨Lm, hLm⟩ : ∃ X : List (Nat × List (ClassId × FieldType) × va_W × va_W), X = [(46, tM (cy 46), bc 46, um)] := ⟨_, rfl⟩
    have hnm : (Lm.map Prod.fst).Nodup := by rw [hLm]; show ([46] : List Nat).Nodup; decide
    refine mbQ_i (As := [.int (xs (i + 1))]) (rest := [.int (-1)]) Lm S9 k0 hP hD hS hA (c12_image (l := l) (D := D) (ad := (ad 46)) (cy := (cy 46)) (z_tape := tape) (z_taped := len) (z_rules := (nn m)) (z_sign := sign) (z_length := lg) (z_clause := clause) (z_clauses := clauses) (z_read := rd) (z_next := nxt) (z_wrong := wrg) (z_number := num) (z_text := txt) (z_made := mde) (z_deep := dep) (z_lines := lns) (z_open := opn) (z_opened := opd) (z_stack := stk) (z_top := tp) (z_word := wd) (z_said := S) (z_force := fo) (z_x := x) (z_will := wil) (z_moved := mov) (z_broke := brk) (z_wasSaid := w) (z_undone := (nn c)) (z_kept := kpt) (z_breakHour := bhr) (z_far := far) (z_queue := que) (z_queued := qud) (z_isOnWay := onw) (z_movePerson := mvp) (z_moveKind := mvk) (z_isFit := isf) (z_standThen := sth) (z_drawX := drx) (z_images := im) (z_imageForce := imF) (z_imageX := imX) (z_isMade := imM) (a1 := (xs (i + 1))) (o_ret := (-1)) (o_images := im) (o_imageForce := imF) (o_imageX := imX) (o_isMade := imM) hm) hnm (by rw [hLm]; exact List.forall_mem_cons.mpr ⟨show 46 < N by omega, fun _ h9 => absurd h9 List.not_mem_nil⟩) (by rw [hLm]; exact List.forall_mem_cons.mpr ⟨kM, fun _ h9 => absurd h9 List.not_mem_nil⟩) (by rw [hLm]; exact List.forall_mem_cons.mpr ⟨rfl, fun _ h9 => absurd h9 List.not_mem_nil⟩) (by rw [hLm]; rfl) (by rw [hLm]; simp only [List.flatMap_cons, List.flatMap_nil, List.append_nil, List.append_assoc]; rw [bm]) (by rw [hLm]; simp only [List.flatMap_cons, List.flatMap_nil, List.append_nil, List.append_assoc]; rw [hum]) (gdV mw_64_10 mw_64_11 mw_64_12 mw_1_5 mw_64_13) rfl rfl hd_f12_image ⟨Nat.le_of_ble_eq_true rfl, Nat.le_of_ble_eq_true rfl⟩ (ci := 12) (q0 := 0) rfl rfl rfl hl.1 rfl (Nat.le_of_ble_eq_true rfl) dL_law_1084 hf9 (fun H locs hP hD hS => ?_)
    obtain ⟨bn, hbn⟩ : ∃ X, X = bsetL bc Lm := ⟨_, rfl⟩
    rw [← hbn] at hP hD
    have tm : bn 46 = um := by rw [hbn]; exact bsetL_at (x := (46, tM (cy 46), bc 46, um)) hnm (by rw [hLm]; exact List.mem_of_getElem? (i := 0) rfl)
    have E2 : ∀ j, j ≠ 46 → bn j = bc j := by
      intro j hj
      rw [hbn]
      exact bsetL_ne (by rw [hLm]; show j ∉ ([46] : List Nat); simp only [List.mem_cons, List.not_mem_nil, or_false]; exact hj)
    have E : ∀ j, (j ≠ 46 ∧ j ≠ (12 + k) ∧ j ≠ (16 + k)) → bn j = bs j := fun j hj => (E2 j (by omega)).trans (E1 j (by omega))
    have s1 : bn (12 + k) = u12k := (E2 _ (by omega)).trans t1
    have s2 : bn (16 + k) = u16k := (E2 _ (by omega)).trans t2
    refine lv_icmp_eq (tgt := 1115) hx hb dL_law_1087 rfl (fun _ => ?_) (fun c8 => absurd rfl c8)
    refine W.widen (k := cells + 8) (n := slots + 13200) (Nat.le_add_right _ _) (Nat.le_add_right _ _) ?_
    have EL : ∀ j, 47 ≤ j → j < N → bn j = bs j := fun j h1 h2 => E j (by omega)
    exact kk N bn H locs ⟨m, c, nx, tn, R, P, (lh 0), rls, bytes, len, fo, x, notes, nh, nr, nm, hour, broken, rung, grip, want, slips, worn, tape, sign, clause, clauses, S, w, im, imF, imX, imM, hN, (E 0 (by omega)).trans b0, hBT.congr (E 1 (by omega)), (E 2 (by omega)).trans b2, hBRR.congr (E 3 (by omega)), hBN.congr (E 4 (by omega)), (E 5 (by omega)).trans b5, hBH.congr (E 6 (by omega)), hBO.congr (E 7 (by omega)), hB8.congr (E 8 (by omega)), hBP.congr (E 9 (by omega)), hBS.congr (E 10 (by omega)), hB11.congr (E 11 (by omega)), hSc.congr (Nat.le_refl _) EL, hPs.congr (fun k hk => E _ (by omega)), hIm.congr (Nat.le_refl _) (Nat.le_refl _) (fun k9 h9 => by
      by_cases q1 : k9 = k
      · rw [q1]; exact (s1.trans hu12k).trans bi1.symm
      · by_cases q2 : k9 = 4 + k
        · rw [q2, show 12 + (4 + k) = 16 + k by omega]; exact (s2.trans hu16k).trans bi2.symm
        · exact E _ (by omega)) EL, hRu.congr (fun j hj => E _ (by omega)) hm6, ⟨_, _, _, _, _, _, _, _, _, _, _, _, _, _, _, _, _, _, _, _, _, _, _, _, _, _, _, _, tm.trans hum⟩, hTP, hm6, hof, hox⟩ hP hD hS
  · skip
    have hkk : k = k2 := (hku k2 h4 hak).symm
    subst hkk
    refine lv_aload_n hx hb dL_law_1069 rfl (lv_at hl 2 rfl) ?_
    refine ld1 C hS hl hi dL_law_1070 dL_law_1071 dL_law_1072 dL_law_1073 dL_law_1074 ?_
    obtain ⟨u12k, hu12k⟩ : ∃ X : va_W, X = cSt (ad (12 + k)) (cy (12 + k)) ((ad (16 + k)) 0) fo x notes nh1 nr1 nm1 1 := ⟨_, rfl⟩
    obtain ⟨u16k, hu16k⟩ : ∃ X : va_W, X = cW (ad (16 + k)) (cy (16 + k)) (lh 0) hour broken r9 g9 w9 s9 k9 := ⟨_, rfl⟩
    obtain ⟨Lc, hLc⟩ : ∃ X : List (Nat × List (ClassId × FieldType) × va_W × va_W), X = [(0, tLL (cy 0), bs 0, bs 0), ((12 + k), tSt (cy (12 + k)), bs (12 + k), u12k), ((16 + k), tW (cy (16 + k)), bs (16 + k), u16k), (4, tSt (cy 4), bs 4, bs 4), (5, tW (cy 5), bs 5, bs 5)] := ⟨_, rfl⟩
    have hnd : (Lc.map Prod.fst).Nodup := by rw [hLc]; show ([0, (12 + k), (16 + k), 4, 5] : List Nat).Nodup; simp only [List.nodup_cons, List.mem_cons, List.not_mem_nil, or_false, not_or, List.nodup_nil, and_true, not_false_eq_true] <;> omega
    have hlt : ∀ x ∈ Lc, x.1 < N := by rw [hLc]; exact List.forall_mem_cons.mpr ⟨show 0 < N by omega, List.forall_mem_cons.mpr ⟨show (12 + k) < N by omega, List.forall_mem_cons.mpr ⟨show (16 + k) < N by omega, List.forall_mem_cons.mpr ⟨show 4 < N by omega, List.forall_mem_cons.mpr ⟨show 5 < N by omega, fun _ h9 => absurd h9 List.not_mem_nil⟩⟩⟩⟩⟩
    have hkL : ∀ x ∈ Lc, va_K D vwCl x.2.1 s := by rw [hLc]; exact List.forall_mem_cons.mpr ⟨kLL, List.forall_mem_cons.mpr ⟨(kIm k hk).1, List.forall_mem_cons.mpr ⟨(kIm k hk).2.1, List.forall_mem_cons.mpr ⟨kS4, List.forall_mem_cons.mpr ⟨kW5, fun _ h9 => absurd h9 List.not_mem_nil⟩⟩⟩⟩⟩
    have hbL : ∀ x ∈ Lc, bs x.1 = x.2.2.1 := by rw [hLc]; exact List.forall_mem_cons.mpr ⟨rfl, List.forall_mem_cons.mpr ⟨rfl, List.forall_mem_cons.mpr ⟨rfl, List.forall_mem_cons.mpr ⟨rfl, List.forall_mem_cons.mpr ⟨rfl, fun _ h9 => absurd h9 List.not_mem_nil⟩⟩⟩⟩⟩
    refine mbQ_i (As := [.int (xs (i + 1))]) (rest := []) Lc S9 k0 hP hD hS hA (c11_image (l := l) (D := D) (ad_this := (ad 0)) (cy_this := (cy 0)) (z_this_tape := (ad 1 0)) (z_this_ladderReader := (ad 2 0)) (z_this_ruleReader := (ad 3 0)) (z_this_rules := rls) (z_this_ruleCount := (nn m)) (z_this_images := ims) (z_this_past := pst) (z_this_pastNext := (nn nx)) (z_this_pastCount := (nn c)) (z_this_hours := (ad 6 0)) (z_this_outlook := (ad 7 0)) (z_this_paths := (ad 9 0)) (z_this_siege := (ad 10 0)) (ad_this_imagesAt := (ad (12 + k))) (cy_this_imagesAt := (cy (12 + k))) (z_this_imagesAt_force := ifo) (z_this_imagesAt_x := ix) (z_this_imagesAt_notes := ino) (z_this_imagesAt_noteHour := inh) (z_this_imagesAt_noteRung := inr) (z_this_imagesAt_noteMany := inm) (z_this_imagesAt_made := imd) (ad_this_imagesAt_world := (ad (16 + k))) (cy_this_imagesAt_world := (cy (16 + k))) (z_this_imagesAt_world_ladder := iq) (z_this_imagesAt_world_hour := ih) (z_this_imagesAt_world_broken := ib) (z_this_imagesAt_world_rung := ir) (z_this_imagesAt_world_grip := ig) (z_this_imagesAt_world_want := iw) (z_this_imagesAt_world_slips := iz) (z_this_imagesAt_world_worn := ik) (ad_this_now := (ad 4)) (cy_this_now := (cy 4)) (z_this_now_force := fo) (z_this_now_x := x) (z_this_now_notes := notes) (z_this_now_noteHour := nh) (z_this_now_noteRung := nr) (z_this_now_noteMany := nm) (z_this_now_made := md) (ad_this_now_world := (ad 5)) (cy_this_now_world := (cy 5)) (z_this_now_world_ladder := (lh 0)) (z_this_now_world_hour := hour) (z_this_now_world_broken := broken) (z_this_now_world_rung := rung) (z_this_now_world_grip := grip) (z_this_now_world_want := want) (z_this_now_world_slips := slips) (z_this_now_world_worn := worn) (a1 := (xs (i + 1))) (o_ret := hour) (o_this_imagesAt_force := fo) (o_this_imagesAt_x := x) (o_this_imagesAt_notes := notes) (o_this_imagesAt_noteHour := nh1) (o_this_imagesAt_noteRung := nr1) (o_this_imagesAt_noteMany := nm1) (o_this_imagesAt_made := 1) (o_this_imagesAt_world_hour := hour) (o_this_imagesAt_world_broken := broken) (o_this_imagesAt_world_rung := r9) (o_this_imagesAt_world_grip := g9) (o_this_imagesAt_world_want := w9) (o_this_imagesAt_world_slips := s9) (o_this_imagesAt_world_worn := k9) (o_link_this_imagesAt_world := (lh 0)) hc) hnd hlt hkL hbL (by rw [hLc]; rfl) (by rw [hLc]; simp only [List.flatMap_cons, List.flatMap_nil, List.append_nil, List.append_assoc]; rw [b0, bi1, bi2, b4, b5]) (by rw [hLc]; simp only [List.flatMap_cons, List.flatMap_nil, List.append_nil, List.append_assoc]; rw [b0, hu12k, hu16k, b4, b5]) (gdV mw_63_22 mw_63_23 mw_64_0 mw_1_2 mw_64_1) rfl rfl hd_f11_image ⟨Nat.le_of_ble_eq_true rfl, Nat.le_of_ble_eq_true rfl⟩ (ci := 11) (q0 := 0) rfl rfl rfl hl.1 rfl (Nat.le_of_ble_eq_true rfl) dL_law_1075 hf9 (fun H locs hP hD hS => ?_)
    obtain ⟨bc, hbc⟩ : ∃ X, X = bsetL bs Lc := ⟨_, rfl⟩
    rw [← hbc] at hP hD
    have t0 : bc 0 = bs 0 := by rw [hbc]; exact bsetL_at (x := (0, tLL (cy 0), bs 0, bs 0)) hnd (by rw [hLc]; exact List.mem_of_getElem? (i := 0) rfl)
    have t1 : bc (12 + k) = u12k := by rw [hbc]; exact bsetL_at (x := ((12 + k), tSt (cy (12 + k)), bs (12 + k), u12k)) hnd (by rw [hLc]; exact List.mem_of_getElem? (i := 1) rfl)
    have t2 : bc (16 + k) = u16k := by rw [hbc]; exact bsetL_at (x := ((16 + k), tW (cy (16 + k)), bs (16 + k), u16k)) hnd (by rw [hLc]; exact List.mem_of_getElem? (i := 2) rfl)
    have t3 : bc 4 = bs 4 := by rw [hbc]; exact bsetL_at (x := (4, tSt (cy 4), bs 4, bs 4)) hnd (by rw [hLc]; exact List.mem_of_getElem? (i := 3) rfl)
    have t4 : bc 5 = bs 5 := by rw [hbc]; exact bsetL_at (x := (5, tW (cy 5), bs 5, bs 5)) hnd (by rw [hLc]; exact List.mem_of_getElem? (i := 4) rfl)
    have E1 : ∀ j, (j ≠ (12 + k) ∧ j ≠ (16 + k)) → bc j = bs j := by
      intro j hj
      by_cases q0 : j = 0
      · rw [q0]; exact t0
      by_cases q3 : j = 4
      · rw [q3]; exact t3
      by_cases q4 : j = 5
      · rw [q4]; exact t4
      rw [hbc]
      exact bsetL_ne (by rw [hLc]; show j ∉ ([0, (12 + k), (16 + k), 4, 5] : List Nat); simp only [List.mem_cons, List.not_mem_nil, or_false, not_or]; omega)
    refine lv_aload_n hx hb dL_law_1078 rfl (lv_at hl 1 rfl) ?_
    refine ld1 C hS hl hi dL_law_1079 dL_law_1080 dL_law_1081 dL_law_1082 dL_law_1083 ?_
    obtain ⟨um, hum⟩ : ∃ X : va_W, X = (cM (ad 46) (cy 46) tape len (nn m) sign lg clause clauses rd nxt wrg num txt mde dep lns opn opd stk tp wd S fo x wil mov brk w (nn c) kpt bhr far que qud onw mvp mvk isf sth drx (imP S im k 110) (upd imF k fo) (upd imX k x) (upd imM k 1)) := ⟨_, rfl⟩
    have bm : bc 46 = _ := (E1 46 (by omega)).trans b46
    obtain ⟨Lm, hLm⟩ : ∃ X : List (Nat × List (ClassId × FieldType) × va_W × va_W), X = [(46, tM (cy 46), bc 46, um)] := ⟨_, rfl⟩
    have hnm : (Lm.map Prod.fst).Nodup := by rw [hLm]; show ([46] : List Nat).Nodup; decide
    refine mbQ_i (As := [.int (xs (i + 1))]) (rest := [.int hour]) Lm S9 k0 hP hD hS hA (c12_image (l := l) (D := D) (ad := (ad 46)) (cy := (cy 46)) (z_tape := tape) (z_taped := len) (z_rules := (nn m)) (z_sign := sign) (z_length := lg) (z_clause := clause) (z_clauses := clauses) (z_read := rd) (z_next := nxt) (z_wrong := wrg) (z_number := num) (z_text := txt) (z_made := mde) (z_deep := dep) (z_lines := lns) (z_open := opn) (z_opened := opd) (z_stack := stk) (z_top := tp) (z_word := wd) (z_said := S) (z_force := fo) (z_x := x) (z_will := wil) (z_moved := mov) (z_broke := brk) (z_wasSaid := w) (z_undone := (nn c)) (z_kept := kpt) (z_breakHour := bhr) (z_far := far) (z_queue := que) (z_queued := qud) (z_isOnWay := onw) (z_movePerson := mvp) (z_moveKind := mvk) (z_isFit := isf) (z_standThen := sth) (z_drawX := drx) (z_images := im) (z_imageForce := imF) (z_imageX := imX) (z_isMade := imM) (a1 := (xs (i + 1))) (o_ret := hour) (o_images := (imP S im k 110)) (o_imageForce := (upd imF k fo)) (o_imageX := (upd imX k x)) (o_isMade := (upd imM k 1)) hm) hnm (by rw [hLm]; exact List.forall_mem_cons.mpr ⟨show 46 < N by omega, fun _ h9 => absurd h9 List.not_mem_nil⟩) (by rw [hLm]; exact List.forall_mem_cons.mpr ⟨kM, fun _ h9 => absurd h9 List.not_mem_nil⟩) (by rw [hLm]; exact List.forall_mem_cons.mpr ⟨rfl, fun _ h9 => absurd h9 List.not_mem_nil⟩) (by rw [hLm]; rfl) (by rw [hLm]; simp only [List.flatMap_cons, List.flatMap_nil, List.append_nil, List.append_assoc]; rw [bm]) (by rw [hLm]; simp only [List.flatMap_cons, List.flatMap_nil, List.append_nil, List.append_assoc]; rw [hum]) (gdV mw_64_10 mw_64_11 mw_64_12 mw_1_5 mw_64_13) rfl rfl hd_f12_image ⟨Nat.le_of_ble_eq_true rfl, Nat.le_of_ble_eq_true rfl⟩ (ci := 12) (q0 := 0) rfl rfl rfl hl.1 rfl (Nat.le_of_ble_eq_true rfl) dL_law_1084 hf9 (fun H locs hP hD hS => ?_)
    obtain ⟨bn, hbn⟩ : ∃ X, X = bsetL bc Lm := ⟨_, rfl⟩
    rw [← hbn] at hP hD
    have tm : bn 46 = um := by rw [hbn]; exact bsetL_at (x := (46, tM (cy 46), bc 46, um)) hnm (by rw [hLm]; exact List.mem_of_getElem? (i := 0) rfl)
    have E2 : ∀ j, j ≠ 46 → bn j = bc j := by
      intro j hj
      rw [hbn]
      exact bsetL_ne (by rw [hLm]; show j ∉ ([46] : List Nat); simp only [List.mem_cons, List.not_mem_nil, or_false]; exact hj)
    have E : ∀ j, (j ≠ 46 ∧ j ≠ (12 + k) ∧ j ≠ (16 + k)) → bn j = bs j := fun j hj => (E2 j (by omega)).trans (E1 j (by omega))
    have s1 : bn (12 + k) = u12k := (E2 _ (by omega)).trans t1
    have s2 : bn (16 + k) = u16k := (E2 _ (by omega)).trans t2
    refine lv_icmp_eq (tgt := 1115) hx hb dL_law_1087 rfl (fun _ => ?_) (fun c8 => absurd rfl c8)
    refine W.widen (k := cells + 8) (n := slots + 13200) (Nat.le_add_right _ _) (Nat.le_add_right _ _) ?_
    have EL : ∀ j, 47 ≤ j → j < N → bn j = bs j := fun j h1 h2 => E j (by omega)
    exact kk N bn H locs ⟨m, c, nx, tn, R, P, (lh 0), rls, bytes, len, fo, x, notes, nh, nr, nm, hour, broken, rung, grip, want, slips, worn, tape, sign, clause, clauses, S, w, (imP S im k 110), (upd imF k fo), (upd imX k x), (upd imM k 1), hN, (E 0 (by omega)).trans b0, hBT.congr (E 1 (by omega)), (E 2 (by omega)).trans b2, hBRR.congr (E 3 (by omega)), hBN.congr (E 4 (by omega)), (E 5 (by omega)).trans b5, hBH.congr (E 6 (by omega)), hBO.congr (E 7 (by omega)), hB8.congr (E 8 (by omega)), hBP.congr (E 9 (by omega)), hBS.congr (E 10 (by omega)), hB11.congr (E 11 (by omega)), hSc.congr (Nat.le_refl _) EL, hPs.congr (fun k hk => E _ (by omega)), hIm.image hk (s1.trans hu12k) (s2.trans hu16k) (fun j h1 h2 h3 => E _ (by omega)) EL hof hox hSc hW1 hN1, hRu.congr (fun j hj => E _ (by omega)) hm6, ⟨_, _, _, _, _, _, _, _, _, _, _, _, _, _, _, _, _, _, _, _, _, _, _, _, _, _, _, _, tm.trans hum⟩, hTP, hm6, hof, hox⟩ hP hD hS

set_option maxHeartbeats 8000000 in
set_option maxRecDepth 100000 in
theorem k_back (C : Cx p m9 c9 s A D adK adV ad cy ims pst b L xs) (hi : i + 6 ≤ L) (T : Top D s ad cy ims pst N bs) (hP : va_P D vwCl (bW N bs) H) (hD : va_D A (bW N bs)) (hS : va_S A s.heap H locs) (hl : lv_has ls 4 (lvL ad b i)) (hf : cells + 8 ≤ 600000 ∧ slots + 13200 ≤ 7302250)
    (kk : ∀ (N : Nat) (bs : Nat → va_W) (H : Heap) (locs : List Loc), Top D s ad cy ims pst N bs → va_P D vwCl (bW N bs) H → va_D A (bW N bs) → va_S A s.heap H locs → W p l e room_1 s m9 #[.ref b] below meth c9 H locs (cells + 8) (slots + 13200) Q (F0 m9 1115 ls [])) : W p l e room_1 s m9 #[.ref b] below meth c9 H locs cells slots Q (F0 m9 1092 ls []) := by
  obtain ⟨m, c, nx, tn, R, P, A0, rls, bytes, len, fo, x, notes, nh, nr, nm, hour, broken, rung, grip, want, slips, worn, tape, sign, clause, clauses, S, w, im, imF, imX, imM, hN, b0, hBT, b2, hBRR, hBN, b5, hBH, hBO, hB8, hBP, hBS, hB11, hSc, hPs, hIm, hRu, hBM, hTP, hm6, hof, hox⟩ := T
  obtain ⟨S9, hA, hbA, hbl, hX, hL9, hF, hE9, hV9⟩ := id C
  obtain ⟨hx, hb, hml, hown, hts⟩ := id S9
  obtain ⟨k0, kLL, kTp, kRR, kS4, kW5, kH, kO, kW8, kW11, kM, kIm, kPs⟩ := id hF
  have hf9 : cells ≤ room_1.cells ∧ slots ≤ room_1.slots := ⟨Nat.le_trans (Nat.le_add_right _ _) hf.1, Nat.le_trans (Nat.le_add_right _ _) hf.2⟩
  obtain ⟨lg, rd, nxt, wrg, num, txt, mde, dep, lns, opn, opd, stk, tp, wd, wil, mov, brk, kpt, bhr, far, que, qud, onw, mvp, mvk, isf, sth, drx, b46⟩ := id hBM
  obtain ⟨md, b4⟩ := id hBN
  obtain ⟨k, hk, hku⟩ := im_k (xs (i + 1))
  obtain ⟨iq, ifo, ix, ino, inh, inr, inm, imd, ih, ib, ir, ig, iw, iz, ik, bi1, bi2, himd, himr⟩ := hIm k hk
  rcases r_back (ims := ims) (pa := ad (12 + k) 0) (qi := iq) (qn := A0) (S := S) (im := im) (imF := imF) (imX := imX) (imM := imM) (ifo := ifo) (ix := ix) (ino := ino) (inh := inh) (inr := inr) (inm := inm) (imd := imd) (ih := ih) (ib := ib) (ir := ir) (ig := ig) (iw := iw) (is_ := iz) (ik := ik) (fo := fo) (x := x) (notes := notes) (nh := nh) (nr := nr) (nm := nm) (hour := hour) (broken := broken) (rung := rung) (grip := grip) (want := want) (slips := slips) (worn := worn) (pc := nn c) (ud := nn c) (xs (i + 1)) (fun k2 h1 h2 => by
    rw [hku k2 h1 h2]
    refine ⟨(kIm k hk).2.2, himd, fun h9 => ?_⟩
    obtain ⟨d1, d2, d3, d4, R2, P2, d5⟩ := himr h9
    exact ⟨d5.rw.1, d5.rw.2, d1, d2⟩) with ⟨hc, hm⟩ | ⟨k2, nh1, nr1, nm1, r9, g9, w9, s9, k9, h4, hak, him, hc, hm, hW1, hN1, hlo⟩
  · skip
    refine lv_aload_n hx hb dL_law_1092 rfl (lv_at hl 2 rfl) ?_
    refine ld1 C hS hl hi dL_law_1093 dL_law_1094 dL_law_1095 dL_law_1096 dL_law_1097 ?_
    obtain ⟨u0, hu0⟩ : ∃ X : va_W, X = cLL (ad 0) (cy 0) (ad 1 0) (ad 2 0) (ad 3 0) rls (nn m) ((ad 4) 0) ims pst (nn nx) (nn c) (ad 6 0) (ad 7 0) (ad 9 0) (ad 10 0) := ⟨_, rfl⟩
    obtain ⟨u4, hu4⟩ : ∃ X : va_W, X = cSt (ad 4) (cy 4) ((ad 5) 0) fo x notes nh nr nm md := ⟨_, rfl⟩
    obtain ⟨u5, hu5⟩ : ∃ X : va_W, X = cW (ad 5) (cy 5) A0 hour broken rung grip want slips worn := ⟨_, rfl⟩
    obtain ⟨Lc, hLc⟩ : ∃ X : List (Nat × List (ClassId × FieldType) × va_W × va_W), X = [(0, tLL (cy 0), bs 0, u0), ((12 + k), tSt (cy (12 + k)), bs (12 + k), bs (12 + k)), ((16 + k), tW (cy (16 + k)), bs (16 + k), bs (16 + k)), (4, tSt (cy 4), bs 4, u4), (5, tW (cy 5), bs 5, u5)] := ⟨_, rfl⟩
    have hnd : (Lc.map Prod.fst).Nodup := by rw [hLc]; show ([0, (12 + k), (16 + k), 4, 5] : List Nat).Nodup; simp only [List.nodup_cons, List.mem_cons, List.not_mem_nil, or_false, not_or, List.nodup_nil, and_true, not_false_eq_true] <;> omega
    have hlt : ∀ x ∈ Lc, x.1 < N := by rw [hLc]; exact List.forall_mem_cons.mpr ⟨show 0 < N by omega, List.forall_mem_cons.mpr ⟨show (12 + k) < N by omega, List.forall_mem_cons.mpr ⟨show (16 + k) < N by omega, List.forall_mem_cons.mpr ⟨show 4 < N by omega, List.forall_mem_cons.mpr ⟨show 5 < N by omega, fun _ h9 => absurd h9 List.not_mem_nil⟩⟩⟩⟩⟩
    have hkL : ∀ x ∈ Lc, va_K D vwCl x.2.1 s := by rw [hLc]; exact List.forall_mem_cons.mpr ⟨kLL, List.forall_mem_cons.mpr ⟨(kIm k hk).1, List.forall_mem_cons.mpr ⟨(kIm k hk).2.1, List.forall_mem_cons.mpr ⟨kS4, List.forall_mem_cons.mpr ⟨kW5, fun _ h9 => absurd h9 List.not_mem_nil⟩⟩⟩⟩⟩
    have hbL : ∀ x ∈ Lc, bs x.1 = x.2.2.1 := by rw [hLc]; exact List.forall_mem_cons.mpr ⟨rfl, List.forall_mem_cons.mpr ⟨rfl, List.forall_mem_cons.mpr ⟨rfl, List.forall_mem_cons.mpr ⟨rfl, List.forall_mem_cons.mpr ⟨rfl, fun _ h9 => absurd h9 List.not_mem_nil⟩⟩⟩⟩⟩
    refine mbQ_i (As := [.int (xs (i + 1))]) (rest := []) Lc S9 k0 hP hD hS hA (c11_back (l := l) (D := D) (ad_this := (ad 0)) (cy_this := (cy 0)) (z_this_tape := (ad 1 0)) (z_this_ladderReader := (ad 2 0)) (z_this_ruleReader := (ad 3 0)) (z_this_rules := rls) (z_this_ruleCount := (nn m)) (z_this_images := ims) (z_this_past := pst) (z_this_pastNext := (nn nx)) (z_this_pastCount := (nn c)) (z_this_hours := (ad 6 0)) (z_this_outlook := (ad 7 0)) (z_this_paths := (ad 9 0)) (z_this_siege := (ad 10 0)) (ad_this_imagesAt := (ad (12 + k))) (cy_this_imagesAt := (cy (12 + k))) (z_this_imagesAt_force := ifo) (z_this_imagesAt_x := ix) (z_this_imagesAt_notes := ino) (z_this_imagesAt_noteHour := inh) (z_this_imagesAt_noteRung := inr) (z_this_imagesAt_noteMany := inm) (z_this_imagesAt_made := imd) (ad_this_imagesAt_world := (ad (16 + k))) (cy_this_imagesAt_world := (cy (16 + k))) (z_this_imagesAt_world_ladder := iq) (z_this_imagesAt_world_hour := ih) (z_this_imagesAt_world_broken := ib) (z_this_imagesAt_world_rung := ir) (z_this_imagesAt_world_grip := ig) (z_this_imagesAt_world_want := iw) (z_this_imagesAt_world_slips := iz) (z_this_imagesAt_world_worn := ik) (ad_this_now := (ad 4)) (cy_this_now := (cy 4)) (z_this_now_force := fo) (z_this_now_x := x) (z_this_now_notes := notes) (z_this_now_noteHour := nh) (z_this_now_noteRung := nr) (z_this_now_noteMany := nm) (z_this_now_made := md) (ad_this_now_world := (ad 5)) (cy_this_now_world := (cy 5)) (z_this_now_world_ladder := A0) (z_this_now_world_hour := hour) (z_this_now_world_broken := broken) (z_this_now_world_rung := rung) (z_this_now_world_grip := grip) (z_this_now_world_want := want) (z_this_now_world_slips := slips) (z_this_now_world_worn := worn) (a1 := (xs (i + 1))) (o_ret := (-1)) (o_this_pastCount := (nn c)) (o_this_now_force := fo) (o_this_now_x := x) (o_this_now_notes := notes) (o_this_now_noteHour := nh) (o_this_now_noteRung := nr) (o_this_now_noteMany := nm) (o_this_now_world_hour := hour) (o_this_now_world_broken := broken) (o_this_now_world_rung := rung) (o_this_now_world_grip := grip) (o_this_now_world_want := want) (o_this_now_world_slips := slips) (o_this_now_world_worn := worn) (o_link_this_now_world := A0) hc) hnd hlt hkL hbL (by rw [hLc]; rfl) (by rw [hLc]; simp only [List.flatMap_cons, List.flatMap_nil, List.append_nil, List.append_assoc]; rw [b0, bi1, bi2, b4, b5]) (by rw [hLc]; simp only [List.flatMap_cons, List.flatMap_nil, List.append_nil, List.append_assoc]; rw [hu0, bi1, bi2, hu4, hu5]) (gdV mw_64_15 mw_64_16 mw_64_17 mw_1_2 mw_64_18) rfl rfl hd_f11_back ⟨Nat.le_of_ble_eq_true rfl, Nat.le_of_ble_eq_true rfl⟩ (ci := 11) (q0 := 0) rfl rfl rfl hl.1 rfl (Nat.le_of_ble_eq_true rfl) dL_law_1098 hf9 (fun H locs hP hD hS => ?_)
    obtain ⟨bc, hbc⟩ : ∃ X, X = bsetL bs Lc := ⟨_, rfl⟩
    rw [← hbc] at hP hD
    have t0 : bc 0 = u0 := by rw [hbc]; exact bsetL_at (x := (0, tLL (cy 0), bs 0, u0)) hnd (by rw [hLc]; exact List.mem_of_getElem? (i := 0) rfl)
    have t1 : bc (12 + k) = bs (12 + k) := by rw [hbc]; exact bsetL_at (x := ((12 + k), tSt (cy (12 + k)), bs (12 + k), bs (12 + k))) hnd (by rw [hLc]; exact List.mem_of_getElem? (i := 1) rfl)
    have t2 : bc (16 + k) = bs (16 + k) := by rw [hbc]; exact bsetL_at (x := ((16 + k), tW (cy (16 + k)), bs (16 + k), bs (16 + k))) hnd (by rw [hLc]; exact List.mem_of_getElem? (i := 2) rfl)
    have t3 : bc 4 = u4 := by rw [hbc]; exact bsetL_at (x := (4, tSt (cy 4), bs 4, u4)) hnd (by rw [hLc]; exact List.mem_of_getElem? (i := 3) rfl)
    have t4 : bc 5 = u5 := by rw [hbc]; exact bsetL_at (x := (5, tW (cy 5), bs 5, u5)) hnd (by rw [hLc]; exact List.mem_of_getElem? (i := 4) rfl)
    have E1 : ∀ j, (j ≠ 0 ∧ j ≠ 4 ∧ j ≠ 5) → bc j = bs j := by
      intro j hj
      by_cases q1 : j = (12 + k)
      · rw [q1]; exact t1
      by_cases q2 : j = (16 + k)
      · rw [q2]; exact t2
      rw [hbc]
      exact bsetL_ne (by rw [hLc]; show j ∉ ([0, (12 + k), (16 + k), 4, 5] : List Nat); simp only [List.mem_cons, List.not_mem_nil, or_false, not_or]; omega)
    refine lv_aload_n hx hb dL_law_1101 rfl (lv_at hl 1 rfl) ?_
    refine ld1 C hS hl hi dL_law_1102 dL_law_1103 dL_law_1104 dL_law_1105 dL_law_1106 ?_
    obtain ⟨um, hum⟩ : ∃ X : va_W, X = (cM (ad 46) (cy 46) tape len (nn m) sign lg clause clauses rd nxt wrg num txt mde dep lns opn opd stk tp wd S fo x wil mov brk w (nn c) kpt bhr far que qud onw mvp mvk isf sth drx im imF imX imM) := ⟨_, rfl⟩
    have bm : bc 46 = _ := (E1 46 (by omega)).trans b46
    obtain ⟨Lm, hLm⟩ : ∃ X : List (Nat × List (ClassId × FieldType) × va_W × va_W), X = [(46, tM (cy 46), bc 46, um)] := ⟨_, rfl⟩
    have hnm : (Lm.map Prod.fst).Nodup := by rw [hLm]; show ([46] : List Nat).Nodup; decide
    refine mbQ_i (As := [.int (xs (i + 1))]) (rest := [.int (-1)]) Lm S9 k0 hP hD hS hA (c12_back (l := l) (D := D) (ad := (ad 46)) (cy := (cy 46)) (z_tape := tape) (z_taped := len) (z_rules := (nn m)) (z_sign := sign) (z_length := lg) (z_clause := clause) (z_clauses := clauses) (z_read := rd) (z_next := nxt) (z_wrong := wrg) (z_number := num) (z_text := txt) (z_made := mde) (z_deep := dep) (z_lines := lns) (z_open := opn) (z_opened := opd) (z_stack := stk) (z_top := tp) (z_word := wd) (z_said := S) (z_force := fo) (z_x := x) (z_will := wil) (z_moved := mov) (z_broke := brk) (z_wasSaid := w) (z_undone := (nn c)) (z_kept := kpt) (z_breakHour := bhr) (z_far := far) (z_queue := que) (z_queued := qud) (z_isOnWay := onw) (z_movePerson := mvp) (z_moveKind := mvk) (z_isFit := isf) (z_standThen := sth) (z_drawX := drx) (z_images := im) (z_imageForce := imF) (z_imageX := imX) (z_isMade := imM) (a1 := (xs (i + 1))) (o_ret := (-1)) (o_said := S) (o_force := fo) (o_x := x) (o_undone := (nn c)) hm) hnm (by rw [hLm]; exact List.forall_mem_cons.mpr ⟨show 46 < N by omega, fun _ h9 => absurd h9 List.not_mem_nil⟩) (by rw [hLm]; exact List.forall_mem_cons.mpr ⟨kM, fun _ h9 => absurd h9 List.not_mem_nil⟩) (by rw [hLm]; exact List.forall_mem_cons.mpr ⟨rfl, fun _ h9 => absurd h9 List.not_mem_nil⟩) (by rw [hLm]; rfl) (by rw [hLm]; simp only [List.flatMap_cons, List.flatMap_nil, List.append_nil, List.append_assoc]; rw [bm]) (by rw [hLm]; simp only [List.flatMap_cons, List.flatMap_nil, List.append_nil, List.append_assoc]; rw [hum]) (gdV mw_64_19 mw_64_20 mw_64_21 mw_1_5 mw_64_22) rfl rfl hd_f12_back ⟨Nat.le_of_ble_eq_true rfl, Nat.le_of_ble_eq_true rfl⟩ (ci := 12) (q0 := 0) rfl rfl rfl hl.1 rfl (Nat.le_of_ble_eq_true rfl) dL_law_1107 hf9 (fun H locs hP hD hS => ?_)
    obtain ⟨bn, hbn⟩ : ∃ X, X = bsetL bc Lm := ⟨_, rfl⟩
    rw [← hbn] at hP hD
    have tm : bn 46 = um := by rw [hbn]; exact bsetL_at (x := (46, tM (cy 46), bc 46, um)) hnm (by rw [hLm]; exact List.mem_of_getElem? (i := 0) rfl)
    have E2 : ∀ j, j ≠ 46 → bn j = bc j := by
      intro j hj
      rw [hbn]
      exact bsetL_ne (by rw [hLm]; show j ∉ ([46] : List Nat); simp only [List.mem_cons, List.not_mem_nil, or_false]; exact hj)
    have E : ∀ j, (j ≠ 46 ∧ j ≠ 0 ∧ j ≠ 4 ∧ j ≠ 5) → bn j = bs j := fun j hj => (E2 j (by omega)).trans (E1 j (by omega))
    have s0 : bn 0 = u0 := (E2 _ (by omega)).trans t0
    have s3 : bn 4 = u4 := (E2 _ (by omega)).trans t3
    have s4 : bn 5 = u5 := (E2 _ (by omega)).trans t4
    refine lv_icmp_eq (tgt := 1115) hx hb dL_law_1110 rfl (fun _ => ?_) (fun c8 => absurd rfl c8)
    refine W.widen (k := cells + 8) (n := slots + 13200) (Nat.le_add_right _ _) (Nat.le_add_right _ _) ?_
    have EL : ∀ j, 47 ≤ j → j < N → bn j = bs j := fun j h1 h2 => E j (by omega)
    exact kk N bn H locs ⟨m, c, nx, tn, R, P, A0, rls, bytes, len, fo, x, notes, nh, nr, nm, hour, broken, rung, grip, want, slips, worn, tape, sign, clause, clauses, S, w, im, imF, imX, imM, hN, (s0.trans hu0), hBT.congr (E 1 (by omega)), (E 2 (by omega)).trans b2, hBRR.congr (E 3 (by omega)), ⟨_, (s3.trans hu4)⟩, (s4.trans hu5), hBH.congr (E 6 (by omega)), hBO.congr (E 7 (by omega)), hB8.congr (E 8 (by omega)), hBP.congr (E 9 (by omega)), hBS.congr (E 10 (by omega)), hB11.congr (E 11 (by omega)), hSc.congr (Nat.le_refl _) EL, hPs.congr (fun k hk => E _ (by omega)), hIm.congr (Nat.le_refl _) (Nat.le_refl _) (fun k hk => E _ (by omega)) EL, hRu.congr (fun j hj => E _ (by omega)) hm6, ⟨_, _, _, _, _, _, _, _, _, _, _, _, _, _, _, _, _, _, _, _, _, _, _, _, _, _, _, _, tm.trans hum⟩, hTP, hm6, hof, hox⟩ hP hD hS
  · skip
    have hkk : k = k2 := (hku k2 h4 hak).symm
    subst hkk
    obtain ⟨d1, d2, d3, d4, R2, P2, d5⟩ := himr him
    refine lv_aload_n hx hb dL_law_1092 rfl (lv_at hl 2 rfl) ?_
    refine ld1 C hS hl hi dL_law_1093 dL_law_1094 dL_law_1095 dL_law_1096 dL_law_1097 ?_
    obtain ⟨u0, hu0⟩ : ∃ X : va_W, X = cLL (ad 0) (cy 0) (ad 1 0) (ad 2 0) (ad 3 0) rls (nn m) ((ad 4) 0) ims pst (nn nx) (nn 0) (ad 6 0) (ad 7 0) (ad 9 0) (ad 10 0) := ⟨_, rfl⟩
    obtain ⟨u4, hu4⟩ : ∃ X : va_W, X = cSt (ad 4) (cy 4) ((ad 5) 0) ifo ix ino nh1 nr1 nm1 md := ⟨_, rfl⟩
    obtain ⟨u5, hu5⟩ : ∃ X : va_W, X = cW (ad 5) (cy 5) iq ih ib r9 g9 w9 s9 k9 := ⟨_, rfl⟩
    obtain ⟨Lc, hLc⟩ : ∃ X : List (Nat × List (ClassId × FieldType) × va_W × va_W), X = [(0, tLL (cy 0), bs 0, u0), ((12 + k), tSt (cy (12 + k)), bs (12 + k), bs (12 + k)), ((16 + k), tW (cy (16 + k)), bs (16 + k), bs (16 + k)), (4, tSt (cy 4), bs 4, u4), (5, tW (cy 5), bs 5, u5)] := ⟨_, rfl⟩
    have hnd : (Lc.map Prod.fst).Nodup := by rw [hLc]; show ([0, (12 + k), (16 + k), 4, 5] : List Nat).Nodup; simp only [List.nodup_cons, List.mem_cons, List.not_mem_nil, or_false, not_or, List.nodup_nil, and_true, not_false_eq_true] <;> omega
    have hlt : ∀ x ∈ Lc, x.1 < N := by rw [hLc]; exact List.forall_mem_cons.mpr ⟨show 0 < N by omega, List.forall_mem_cons.mpr ⟨show (12 + k) < N by omega, List.forall_mem_cons.mpr ⟨show (16 + k) < N by omega, List.forall_mem_cons.mpr ⟨show 4 < N by omega, List.forall_mem_cons.mpr ⟨show 5 < N by omega, fun _ h9 => absurd h9 List.not_mem_nil⟩⟩⟩⟩⟩
    have hkL : ∀ x ∈ Lc, va_K D vwCl x.2.1 s := by rw [hLc]; exact List.forall_mem_cons.mpr ⟨kLL, List.forall_mem_cons.mpr ⟨(kIm k hk).1, List.forall_mem_cons.mpr ⟨(kIm k hk).2.1, List.forall_mem_cons.mpr ⟨kS4, List.forall_mem_cons.mpr ⟨kW5, fun _ h9 => absurd h9 List.not_mem_nil⟩⟩⟩⟩⟩
    have hbL : ∀ x ∈ Lc, bs x.1 = x.2.2.1 := by rw [hLc]; exact List.forall_mem_cons.mpr ⟨rfl, List.forall_mem_cons.mpr ⟨rfl, List.forall_mem_cons.mpr ⟨rfl, List.forall_mem_cons.mpr ⟨rfl, List.forall_mem_cons.mpr ⟨rfl, fun _ h9 => absurd h9 List.not_mem_nil⟩⟩⟩⟩⟩
    refine mbQ_i (As := [.int (xs (i + 1))]) (rest := []) Lc S9 k0 hP hD hS hA (c11_back (l := l) (D := D) (ad_this := (ad 0)) (cy_this := (cy 0)) (z_this_tape := (ad 1 0)) (z_this_ladderReader := (ad 2 0)) (z_this_ruleReader := (ad 3 0)) (z_this_rules := rls) (z_this_ruleCount := (nn m)) (z_this_images := ims) (z_this_past := pst) (z_this_pastNext := (nn nx)) (z_this_pastCount := (nn c)) (z_this_hours := (ad 6 0)) (z_this_outlook := (ad 7 0)) (z_this_paths := (ad 9 0)) (z_this_siege := (ad 10 0)) (ad_this_imagesAt := (ad (12 + k))) (cy_this_imagesAt := (cy (12 + k))) (z_this_imagesAt_force := ifo) (z_this_imagesAt_x := ix) (z_this_imagesAt_notes := ino) (z_this_imagesAt_noteHour := inh) (z_this_imagesAt_noteRung := inr) (z_this_imagesAt_noteMany := inm) (z_this_imagesAt_made := imd) (ad_this_imagesAt_world := (ad (16 + k))) (cy_this_imagesAt_world := (cy (16 + k))) (z_this_imagesAt_world_ladder := iq) (z_this_imagesAt_world_hour := ih) (z_this_imagesAt_world_broken := ib) (z_this_imagesAt_world_rung := ir) (z_this_imagesAt_world_grip := ig) (z_this_imagesAt_world_want := iw) (z_this_imagesAt_world_slips := iz) (z_this_imagesAt_world_worn := ik) (ad_this_now := (ad 4)) (cy_this_now := (cy 4)) (z_this_now_force := fo) (z_this_now_x := x) (z_this_now_notes := notes) (z_this_now_noteHour := nh) (z_this_now_noteRung := nr) (z_this_now_noteMany := nm) (z_this_now_made := md) (ad_this_now_world := (ad 5)) (cy_this_now_world := (cy 5)) (z_this_now_world_ladder := A0) (z_this_now_world_hour := hour) (z_this_now_world_broken := broken) (z_this_now_world_rung := rung) (z_this_now_world_grip := grip) (z_this_now_world_want := want) (z_this_now_world_slips := slips) (z_this_now_world_worn := worn) (a1 := (xs (i + 1))) (o_ret := ih) (o_this_pastCount := (nn 0)) (o_this_now_force := ifo) (o_this_now_x := ix) (o_this_now_notes := ino) (o_this_now_noteHour := nh1) (o_this_now_noteRung := nr1) (o_this_now_noteMany := nm1) (o_this_now_world_hour := ih) (o_this_now_world_broken := ib) (o_this_now_world_rung := r9) (o_this_now_world_grip := g9) (o_this_now_world_want := w9) (o_this_now_world_slips := s9) (o_this_now_world_worn := k9) (o_link_this_now_world := iq) hc) hnd hlt hkL hbL (by rw [hLc]; rfl) (by rw [hLc]; simp only [List.flatMap_cons, List.flatMap_nil, List.append_nil, List.append_assoc]; rw [b0, bi1, bi2, b4, b5]) (by rw [hLc]; simp only [List.flatMap_cons, List.flatMap_nil, List.append_nil, List.append_assoc]; rw [hu0, bi1, bi2, hu4, hu5]) (gdV mw_64_15 mw_64_16 mw_64_17 mw_1_2 mw_64_18) rfl rfl hd_f11_back ⟨Nat.le_of_ble_eq_true rfl, Nat.le_of_ble_eq_true rfl⟩ (ci := 11) (q0 := 0) rfl rfl rfl hl.1 rfl (Nat.le_of_ble_eq_true rfl) dL_law_1098 hf9 (fun H locs hP hD hS => ?_)
    obtain ⟨bc, hbc⟩ : ∃ X, X = bsetL bs Lc := ⟨_, rfl⟩
    rw [← hbc] at hP hD
    have t0 : bc 0 = u0 := by rw [hbc]; exact bsetL_at (x := (0, tLL (cy 0), bs 0, u0)) hnd (by rw [hLc]; exact List.mem_of_getElem? (i := 0) rfl)
    have t1 : bc (12 + k) = bs (12 + k) := by rw [hbc]; exact bsetL_at (x := ((12 + k), tSt (cy (12 + k)), bs (12 + k), bs (12 + k))) hnd (by rw [hLc]; exact List.mem_of_getElem? (i := 1) rfl)
    have t2 : bc (16 + k) = bs (16 + k) := by rw [hbc]; exact bsetL_at (x := ((16 + k), tW (cy (16 + k)), bs (16 + k), bs (16 + k))) hnd (by rw [hLc]; exact List.mem_of_getElem? (i := 2) rfl)
    have t3 : bc 4 = u4 := by rw [hbc]; exact bsetL_at (x := (4, tSt (cy 4), bs 4, u4)) hnd (by rw [hLc]; exact List.mem_of_getElem? (i := 3) rfl)
    have t4 : bc 5 = u5 := by rw [hbc]; exact bsetL_at (x := (5, tW (cy 5), bs 5, u5)) hnd (by rw [hLc]; exact List.mem_of_getElem? (i := 4) rfl)
    have E1 : ∀ j, (j ≠ 0 ∧ j ≠ 4 ∧ j ≠ 5) → bc j = bs j := by
      intro j hj
      by_cases q1 : j = (12 + k)
      · rw [q1]; exact t1
      by_cases q2 : j = (16 + k)
      · rw [q2]; exact t2
      rw [hbc]
      exact bsetL_ne (by rw [hLc]; show j ∉ ([0, (12 + k), (16 + k), 4, 5] : List Nat); simp only [List.mem_cons, List.not_mem_nil, or_false, not_or]; omega)
    refine lv_aload_n hx hb dL_law_1101 rfl (lv_at hl 1 rfl) ?_
    refine ld1 C hS hl hi dL_law_1102 dL_law_1103 dL_law_1104 dL_law_1105 dL_law_1106 ?_
    obtain ⟨um, hum⟩ : ∃ X : va_W, X = (cM (ad 46) (cy 46) tape len (nn m) sign lg clause clauses rd nxt wrg num txt mde dep lns opn opd stk tp wd (ov 110 (imS im k) S) ifo ix wil mov brk w (nn 0) kpt bhr far que qud onw mvp mvk isf sth drx im imF imX imM) := ⟨_, rfl⟩
    have bm : bc 46 = _ := (E1 46 (by omega)).trans b46
    obtain ⟨Lm, hLm⟩ : ∃ X : List (Nat × List (ClassId × FieldType) × va_W × va_W), X = [(46, tM (cy 46), bc 46, um)] := ⟨_, rfl⟩
    have hnm : (Lm.map Prod.fst).Nodup := by rw [hLm]; show ([46] : List Nat).Nodup; decide
    refine mbQ_i (As := [.int (xs (i + 1))]) (rest := [.int ih]) Lm S9 k0 hP hD hS hA (c12_back (l := l) (D := D) (ad := (ad 46)) (cy := (cy 46)) (z_tape := tape) (z_taped := len) (z_rules := (nn m)) (z_sign := sign) (z_length := lg) (z_clause := clause) (z_clauses := clauses) (z_read := rd) (z_next := nxt) (z_wrong := wrg) (z_number := num) (z_text := txt) (z_made := mde) (z_deep := dep) (z_lines := lns) (z_open := opn) (z_opened := opd) (z_stack := stk) (z_top := tp) (z_word := wd) (z_said := S) (z_force := fo) (z_x := x) (z_will := wil) (z_moved := mov) (z_broke := brk) (z_wasSaid := w) (z_undone := (nn c)) (z_kept := kpt) (z_breakHour := bhr) (z_far := far) (z_queue := que) (z_queued := qud) (z_isOnWay := onw) (z_movePerson := mvp) (z_moveKind := mvk) (z_isFit := isf) (z_standThen := sth) (z_drawX := drx) (z_images := im) (z_imageForce := imF) (z_imageX := imX) (z_isMade := imM) (a1 := (xs (i + 1))) (o_ret := ih) (o_said := (ov 110 (imS im k) S)) (o_force := ifo) (o_x := ix) (o_undone := (nn 0)) hm) hnm (by rw [hLm]; exact List.forall_mem_cons.mpr ⟨show 46 < N by omega, fun _ h9 => absurd h9 List.not_mem_nil⟩) (by rw [hLm]; exact List.forall_mem_cons.mpr ⟨kM, fun _ h9 => absurd h9 List.not_mem_nil⟩) (by rw [hLm]; exact List.forall_mem_cons.mpr ⟨rfl, fun _ h9 => absurd h9 List.not_mem_nil⟩) (by rw [hLm]; rfl) (by rw [hLm]; simp only [List.flatMap_cons, List.flatMap_nil, List.append_nil, List.append_assoc]; rw [bm]) (by rw [hLm]; simp only [List.flatMap_cons, List.flatMap_nil, List.append_nil, List.append_assoc]; rw [hum]) (gdV mw_64_19 mw_64_20 mw_64_21 mw_1_5 mw_64_22) rfl rfl hd_f12_back ⟨Nat.le_of_ble_eq_true rfl, Nat.le_of_ble_eq_true rfl⟩ (ci := 12) (q0 := 0) rfl rfl rfl hl.1 rfl (Nat.le_of_ble_eq_true rfl) dL_law_1107 hf9 (fun H locs hP hD hS => ?_)
    obtain ⟨bn, hbn⟩ : ∃ X, X = bsetL bc Lm := ⟨_, rfl⟩
    rw [← hbn] at hP hD
    have tm : bn 46 = um := by rw [hbn]; exact bsetL_at (x := (46, tM (cy 46), bc 46, um)) hnm (by rw [hLm]; exact List.mem_of_getElem? (i := 0) rfl)
    have E2 : ∀ j, j ≠ 46 → bn j = bc j := by
      intro j hj
      rw [hbn]
      exact bsetL_ne (by rw [hLm]; show j ∉ ([46] : List Nat); simp only [List.mem_cons, List.not_mem_nil, or_false]; exact hj)
    have E : ∀ j, (j ≠ 46 ∧ j ≠ 0 ∧ j ≠ 4 ∧ j ≠ 5) → bn j = bs j := fun j hj => (E2 j (by omega)).trans (E1 j (by omega))
    have s0 : bn 0 = u0 := (E2 _ (by omega)).trans t0
    have s3 : bn 4 = u4 := (E2 _ (by omega)).trans t3
    have s4 : bn 5 = u5 := (E2 _ (by omega)).trans t4
    refine lv_icmp_eq (tgt := 1115) hx hb dL_law_1110 rfl (fun _ => ?_) (fun c8 => absurd rfl c8)
    refine W.widen (k := cells + 8) (n := slots + 13200) (Nat.le_add_right _ _) (Nat.le_add_right _ _) ?_
    have EL : ∀ j, 47 ≤ j → j < N → bn j = bs j := fun j h1 h2 => E j (by omega)
    exact kk N bn H locs ⟨m, 0, nx, tn, R2, P2, iq, rls, bytes, len, ifo, ix, ino, nh1, nr1, nm1, ih, ib, r9, g9, w9, s9, k9, tape, sign, clause, clauses, (ov 110 (imS im k) S), w, im, imF, imX, imM, hN, (s0.trans hu0), hBT.congr (E 1 (by omega)), (E 2 (by omega)).trans b2, hBRR.congr (E 3 (by omega)), ⟨_, (s3.trans hu4)⟩, (s4.trans hu5), hBH.congr (E 6 (by omega)), hBO.congr (E 7 (by omega)), hB8.congr (E 8 (by omega)), hBP.congr (E 9 (by omega)), hBS.congr (E 10 (by omega)), hB11.congr (E 11 (by omega)), (d5.copy hlo hW1 hN1).congr (Nat.le_refl _) EL, hPs.none (fun k hk => E _ (by omega)), hIm.congr (Nat.le_refl _) (Nat.le_refl _) (fun k hk => E _ (by omega)) EL, hRu.congr (fun j hj => E _ (by omega)) hm6, ⟨_, _, _, _, _, _, _, _, _, _, _, _, _, _, _, _, _, _, _, _, _, _, _, _, _, _, _, _, tm.trans hum⟩, hTP, hm6, d3, d4⟩ hP hD hS

end
