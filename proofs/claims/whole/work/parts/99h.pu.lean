/-! the law's cases: those that ask, and those that make no step kept -/
theorem force_ok {m : Nat} {fo a1 v f' : Int32} (hm : m ≤ 6) (h : f11_force (nn m) fo a1 = some (v, f')) (hf : OKf m fo) : OKf m f' := by
  unfold f11_force at h
  by_cases c1 : a1 < (-1 : Int32)
  · rw [if_pos c1] at h; cases h; exact hf
  · rw [if_neg c1] at h
    by_cases c2 : a1 < nn m
    · rw [if_pos c2] at h
      cases h
      by_cases c3 : a1 < 0
      · refine Or.inl (Int32.toInt_inj.mp ?_)
        have h1 := mt Int32.lt_iff_toInt_lt.mpr c1
        have h2 := Int32.lt_iff_toInt_lt.mp c3
        have e1 : (-1 : Int32).toInt = -1 := by decide
        have e0 : (0 : Int32).toInt = 0 := by decide
        rw [e1] at h1 ⊢; rw [e0] at h2
        omega
      · obtain ⟨k, k1, k2, k3⟩ := nn_rng (lo := 0) (hi := m) (x := a1) (by omega) (by omega) c3 (fun q => absurd c2 (Int32.not_lt.mpr (Int32.le_of_lt q)))
        refine Or.inr ⟨k, ?_, k3⟩
        rcases Nat.lt_or_ge k m with q | q
        · exact q
        · exact absurd (by rw [k3] at c2; exact c2) (nlt (a := k) (b := m) (by omega) (by omega) (by omega))
    · rw [if_neg c2] at h; cases h; exact hf
theorem BPs.lo {ad : Nat → Nat → Nat} {cy : Nat → Nat → ClassId} {bs : Nat → va_W} {R P c nx A : Nat} {S S' w : Nat → Int32} (h : BPs ad cy bs R P S w c nx A) (e : Lo S S') : BPs ad cy bs R P S' w c nx A := by
  obtain ⟨pq, ph, pb, pr, pg, pw, ps, pk, h1, h2, h3⟩ := h
  exact ⟨pq, ph, pb, pr, pg, pw, ps, pk, h1, h2.lo e, h3⟩
theorem RNo.n109 {S : Nat → Int32} {notes : Int32} {nh nr nm : Nat → Int32} (h : RNo S notes nh nr nm) : notes = S 109 := by
  obtain ⟨n, h1, h2, h3, h4⟩ := h
  rw [h2, h3]
section
variable {p : Program} {l : Launch} {e : Env} {s : State} {m9 : MethodId} {below : List Frame} {meth : Method} {c9 : Code} {Q : State → Prop} {D : va_G} {A : Nat → Prop} {adK adV : Nat → Nat} {ad : Nat → Nat → Nat} {cy : Nat → Nat → ClassId} {ims pst : Nat → Option Nat} {b L i N : Nat} {xs : Nat → Int32} {bs : Nat → va_W} {H : Heap} {locs : List Loc} {cells slots : Nat} {ls : Array Slot}
set_option maxHeartbeats 8000000 in
set_option maxRecDepth 100000 in
theorem k_feed (C : Cx p m9 c9 s A D adK adV ad cy ims pst b L xs) (hi : i + 6 ≤ L) (T : Top D s ad cy ims pst N bs) (hP : va_P D vwCl (bW N bs) H) (hD : va_D A (bW N bs)) (hS : va_S A s.heap H locs) (hl : lv_has ls 4 (lvL ad b i)) (hf : cells + 8 ≤ 600000 ∧ slots + 13200 ≤ 7302250)
    (kk : ∀ (N : Nat) (bs : Nat → va_W) (H : Heap) (locs : List Loc), Top D s ad cy ims pst N bs → va_P D vwCl (bW N bs) H → va_D A (bW N bs) → va_S A s.heap H locs → W p l e room_1 s m9 #[.ref b] below meth c9 H locs (cells + 8) (slots + 13200) Q (F0 m9 1115 ls [])) : W p l e room_1 s m9 #[.ref b] below meth c9 H locs cells slots Q (F0 m9 180 ls []) := by
  obtain ⟨m, c, nx, tn, R, P, A0, rls, bytes, len, fo, x, notes, nh, nr, nm, hour, broken, rung, grip, want, slips, worn, tape, sign, clause, clauses, S, w, im, imF, imX, imM, hN, b0, hBT, b2, hBRR, hBN, b5, hBH, hBO, hB8, hBP, hBS, hB11, hSc, hPs, hIm, hRu, hBM, hTP, hm6, hof, hox⟩ := T
  obtain ⟨S9, hA, hbA, hbl, hX, hL9, hF, hE9, hV9⟩ := id C
  obtain ⟨hx, hb, hml, hown, hts⟩ := id S9
  obtain ⟨k0, kLL, kTp, kRR, kS4, kW5, kH, kO, kW8, kW11, kM, kIm, kPs⟩ := id hF
  have hf9 : cells ≤ room_1.cells ∧ slots ≤ room_1.slots := ⟨Nat.le_trans (Nat.le_add_right _ _) hf.1, Nat.le_trans (Nat.le_add_right _ _) hf.2⟩
  obtain ⟨lg, rd, nxt, wrg, num, txt, mde, dep, lns, opn, opd, stk, tp, wd, wil, mov, brk, kpt, bhr, far, que, qud, onw, mvp, mvk, isf, sth, drx, b46⟩ := id hBM
  obtain ⟨kd, sg, ft, sa, sp, b1⟩ := id hBT
  obtain ⟨v, by1, ta1, len1, tn1, hc, hm, hT1⟩ := r_feed hTP (xs (i + 1)) (xs (i + 2)) (xs (i + 3)) (xs (i + 4)) (xs (i + 5))
  refine lv_aload_n hx hb dL_law_180 rfl (lv_at hl 2 rfl) ?_
  refine ld1 C hS hl hi dL_law_181 dL_law_182 dL_law_183 dL_law_184 dL_law_185 ?_
  refine ld2 C hS hl hi dL_law_186 dL_law_187 dL_law_188 dL_law_189 dL_law_190 ?_
  refine ld3 C hS hl hi dL_law_191 dL_law_192 dL_law_193 dL_law_194 dL_law_195 ?_
  refine ld4 C hS hl hi dL_law_196 dL_law_197 dL_law_198 dL_law_199 dL_law_200 ?_
  refine ld5 C hS hl hi dL_law_201 dL_law_202 dL_law_203 dL_law_204 dL_law_205 ?_
  obtain ⟨u1, hu1⟩ : ∃ X : va_W, X = cTp (ad 1) (cy 1) by1 len1 kd sg ft sa sp := ⟨_, rfl⟩
  obtain ⟨Lc, hLc⟩ : ∃ X : List (Nat × List (ClassId × FieldType) × va_W × va_W), X = [(0, tLL (cy 0), bs 0, bs 0), (1, tTp (cy 1), bs 1, u1)] := ⟨_, rfl⟩
  have hnd : (Lc.map Prod.fst).Nodup := by rw [hLc]; show ([0, 1] : List Nat).Nodup; simp only [List.nodup_cons, List.mem_cons, List.not_mem_nil, or_false, not_or, List.nodup_nil, and_true, not_false_eq_true] <;> omega
  have hlt : ∀ x ∈ Lc, x.1 < N := by rw [hLc]; exact List.forall_mem_cons.mpr ⟨show 0 < N by omega, List.forall_mem_cons.mpr ⟨show 1 < N by omega, fun _ h9 => absurd h9 List.not_mem_nil⟩⟩
  have hkL : ∀ x ∈ Lc, va_K D vwCl x.2.1 s := by rw [hLc]; exact List.forall_mem_cons.mpr ⟨kLL, List.forall_mem_cons.mpr ⟨kTp, fun _ h9 => absurd h9 List.not_mem_nil⟩⟩
  have hbL : ∀ x ∈ Lc, bs x.1 = x.2.2.1 := by rw [hLc]; exact List.forall_mem_cons.mpr ⟨rfl, List.forall_mem_cons.mpr ⟨rfl, fun _ h9 => absurd h9 List.not_mem_nil⟩⟩
  refine mbQ_i (As := [.int (xs (i + 1)), .int (xs (i + 2)), .int (xs (i + 3)), .int (xs (i + 4)), .int (xs (i + 5))]) (rest := []) Lc S9 k0 hP hD hS hA (c11_feed (l := l) (D := D) (ad_this := (ad 0)) (cy_this := (cy 0)) (z_this_ladderReader := (ad 2 0)) (z_this_ruleReader := (ad 3 0)) (z_this_rules := rls) (z_this_ruleCount := (nn m)) (z_this_now := (ad 4 0)) (z_this_images := ims) (z_this_past := pst) (z_this_pastNext := (nn nx)) (z_this_pastCount := (nn c)) (z_this_hours := (ad 6 0)) (z_this_outlook := (ad 7 0)) (z_this_paths := (ad 9 0)) (z_this_siege := (ad 10 0)) (ad_this_tape := (ad 1)) (cy_this_tape := (cy 1)) (z_this_tape_bytes := bytes) (z_this_tape_length := len) (z_this_tape_kind := kd) (z_this_tape_sign := sg) (z_this_tape_fault := ft) (z_this_tape_start := sa) (z_this_tape_stop := sp) (a1 := (xs (i + 1))) (a2 := (xs (i + 2))) (a3 := (xs (i + 3))) (a4 := (xs (i + 4))) (a5 := (xs (i + 5))) (o_ret := v) (o_this_tape_bytes := by1) (o_this_tape_length := len1) hc) hnd hlt hkL hbL (by rw [hLc]; rfl) (by rw [hLc]; simp only [List.flatMap_cons, List.flatMap_nil, List.append_nil, List.append_assoc]; rw [b0, b1]) (by rw [hLc]; simp only [List.flatMap_cons, List.flatMap_nil, List.append_nil, List.append_assoc]; rw [b0, hu1]) (gdV mw_8_2 mw_8_3 mw_8_4 mw_1_2 mw_8_5) rfl rfl hd_f11_feed ⟨Nat.le_of_ble_eq_true rfl, Nat.le_of_ble_eq_true rfl⟩ (ci := 11) (q0 := 0) rfl rfl rfl hl.1 rfl (Nat.le_of_ble_eq_true rfl) dL_law_206 hf9 (fun H locs hP hD hS => ?_)
  obtain ⟨bc, hbc⟩ : ∃ X, X = bsetL bs Lc := ⟨_, rfl⟩
  rw [← hbc] at hP hD
  have t0 : bc 0 = bs 0 := by rw [hbc]; exact bsetL_at (x := (0, tLL (cy 0), bs 0, bs 0)) hnd (by rw [hLc]; exact List.mem_of_getElem? (i := 0) rfl)
  have t1 : bc 1 = u1 := by rw [hbc]; exact bsetL_at (x := (1, tTp (cy 1), bs 1, u1)) hnd (by rw [hLc]; exact List.mem_of_getElem? (i := 1) rfl)
  have E1 : ∀ j, (j ≠ 1) → bc j = bs j := by
    intro j hj
    by_cases q0 : j = 0
    · rw [q0]; exact t0
    rw [hbc]
    exact bsetL_ne (by rw [hLc]; show j ∉ ([0, 1] : List Nat); simp only [List.mem_cons, List.not_mem_nil, or_false, not_or]; omega)
  refine lv_aload_n hx hb dL_law_209 rfl (lv_at hl 1 rfl) ?_
  refine ld1 C hS hl hi dL_law_210 dL_law_211 dL_law_212 dL_law_213 dL_law_214 ?_
  refine ld2 C hS hl hi dL_law_215 dL_law_216 dL_law_217 dL_law_218 dL_law_219 ?_
  refine ld3 C hS hl hi dL_law_220 dL_law_221 dL_law_222 dL_law_223 dL_law_224 ?_
  refine ld4 C hS hl hi dL_law_225 dL_law_226 dL_law_227 dL_law_228 dL_law_229 ?_
  refine ld5 C hS hl hi dL_law_230 dL_law_231 dL_law_232 dL_law_233 dL_law_234 ?_
  obtain ⟨um, hum⟩ : ∃ X : va_W, X = (cM (ad 46) (cy 46) ta1 len1 (nn m) sign lg clause clauses rd nxt wrg num txt mde dep lns opn opd stk tp wd S fo x wil mov brk w (nn c) kpt bhr far que qud onw mvp mvk isf sth drx im imF imX imM) := ⟨_, rfl⟩
  have bm : bc 46 = _ := (E1 46 (by omega)).trans b46
  obtain ⟨Lm, hLm⟩ : ∃ X : List (Nat × List (ClassId × FieldType) × va_W × va_W), X = [(46, tM (cy 46), bc 46, um)] := ⟨_, rfl⟩
  have hnm : (Lm.map Prod.fst).Nodup := by rw [hLm]; show ([46] : List Nat).Nodup; decide
  refine mbQ_i (As := [.int (xs (i + 1)), .int (xs (i + 2)), .int (xs (i + 3)), .int (xs (i + 4)), .int (xs (i + 5))]) (rest := [.int v]) Lm S9 k0 hP hD hS hA (c12_feed (l := l) (D := D) (ad := (ad 46)) (cy := (cy 46)) (z_tape := tape) (z_taped := len) (z_rules := (nn m)) (z_sign := sign) (z_length := lg) (z_clause := clause) (z_clauses := clauses) (z_read := rd) (z_next := nxt) (z_wrong := wrg) (z_number := num) (z_text := txt) (z_made := mde) (z_deep := dep) (z_lines := lns) (z_open := opn) (z_opened := opd) (z_stack := stk) (z_top := tp) (z_word := wd) (z_said := S) (z_force := fo) (z_x := x) (z_will := wil) (z_moved := mov) (z_broke := brk) (z_wasSaid := w) (z_undone := (nn c)) (z_kept := kpt) (z_breakHour := bhr) (z_far := far) (z_queue := que) (z_queued := qud) (z_isOnWay := onw) (z_movePerson := mvp) (z_moveKind := mvk) (z_isFit := isf) (z_standThen := sth) (z_drawX := drx) (z_images := im) (z_imageForce := imF) (z_imageX := imX) (z_isMade := imM) (a1 := (xs (i + 1))) (a2 := (xs (i + 2))) (a3 := (xs (i + 3))) (a4 := (xs (i + 4))) (a5 := (xs (i + 5))) (o_ret := v) (o_tape := ta1) (o_taped := len1) hm) hnm (by rw [hLm]; exact List.forall_mem_cons.mpr ⟨show 46 < N by omega, fun _ h9 => absurd h9 List.not_mem_nil⟩) (by rw [hLm]; exact List.forall_mem_cons.mpr ⟨kM, fun _ h9 => absurd h9 List.not_mem_nil⟩) (by rw [hLm]; exact List.forall_mem_cons.mpr ⟨rfl, fun _ h9 => absurd h9 List.not_mem_nil⟩) (by rw [hLm]; rfl) (by rw [hLm]; simp only [List.flatMap_cons, List.flatMap_nil, List.append_nil, List.append_assoc]; rw [bm]) (by rw [hLm]; simp only [List.flatMap_cons, List.flatMap_nil, List.append_nil, List.append_assoc]; rw [hum]) (gdV mw_8_12 mw_8_13 mw_8_14 mw_1_5 mw_8_15) rfl rfl hd_f12_feed ⟨Nat.le_of_ble_eq_true rfl, Nat.le_of_ble_eq_true rfl⟩ (ci := 12) (q0 := 0) rfl rfl rfl hl.1 rfl (Nat.le_of_ble_eq_true rfl) dL_law_235 hf9 (fun H locs hP hD hS => ?_)
  obtain ⟨bn, hbn⟩ : ∃ X, X = bsetL bc Lm := ⟨_, rfl⟩
  rw [← hbn] at hP hD
  have tm : bn 46 = um := by rw [hbn]; exact bsetL_at (x := (46, tM (cy 46), bc 46, um)) hnm (by rw [hLm]; exact List.mem_of_getElem? (i := 0) rfl)
  have E2 : ∀ j, j ≠ 46 → bn j = bc j := by
    intro j hj
    rw [hbn]
    exact bsetL_ne (by rw [hLm]; show j ∉ ([46] : List Nat); simp only [List.mem_cons, List.not_mem_nil, or_false]; exact hj)
  have E : ∀ j, (j ≠ 46 ∧ j ≠ 1) → bn j = bs j := fun j hj => (E2 j (by omega)).trans (E1 j (by omega))
  have s1 : bn 1 = u1 := (E2 _ (by omega)).trans t1
  refine lv_icmp_eq (tgt := 1115) hx hb dL_law_238 rfl (fun _ => ?_) (fun c8 => absurd rfl c8)
  refine W.widen (k := cells + 8) (n := slots + 13200) (Nat.le_add_right _ _) (Nat.le_add_right _ _) ?_
  have EL : ∀ j, 47 ≤ j → j < N → bn j = bs j := fun j h1 h2 => E j (by omega)
  exact kk N bn H locs ⟨m, c, nx, tn1, R, P, A0, rls, by1, len1, fo, x, notes, nh, nr, nm, hour, broken, rung, grip, want, slips, worn, ta1, sign, clause, clauses, S, w, im, imF, imX, imM, hN, (E 0 (by omega)).trans b0, ⟨_, _, _, _, _, (s1.trans hu1)⟩, (E 2 (by omega)).trans b2, hBRR.congr (E 3 (by omega)), hBN.congr (E 4 (by omega)), (E 5 (by omega)).trans b5, hBH.congr (E 6 (by omega)), hBO.congr (E 7 (by omega)), hB8.congr (E 8 (by omega)), hBP.congr (E 9 (by omega)), hBS.congr (E 10 (by omega)), hB11.congr (E 11 (by omega)), hSc.congr (Nat.le_refl _) EL, hPs.congr (fun k hk => E _ (by omega)), hIm.congr (Nat.le_refl _) (Nat.le_refl _) (fun k hk => E _ (by omega)) EL, hRu.congr (fun j hj => E _ (by omega)) hm6, ⟨_, _, _, _, _, _, _, _, _, _, _, _, _, _, _, _, _, _, _, _, _, _, _, _, _, _, _, _, tm.trans hum⟩, hT1, hm6, hof, hox⟩ hP hD hS

set_option maxHeartbeats 8000000 in
set_option maxRecDepth 100000 in
theorem k_end (C : Cx p m9 c9 s A D adK adV ad cy ims pst b L xs) (hi : i + 6 ≤ L) (T : Top D s ad cy ims pst N bs) (hP : va_P D vwCl (bW N bs) H) (hD : va_D A (bW N bs)) (hS : va_S A s.heap H locs) (hl : lv_has ls 4 (lvL ad b i)) (hf : cells + 8 ≤ 600000 ∧ slots + 13200 ≤ 7302250)
    (kk : ∀ (N : Nat) (bs : Nat → va_W) (H : Heap) (locs : List Loc), Top D s ad cy ims pst N bs → va_P D vwCl (bW N bs) H → va_D A (bW N bs) → va_S A s.heap H locs → W p l e room_1 s m9 #[.ref b] below meth c9 H locs (cells + 8) (slots + 13200) Q (F0 m9 1115 ls [])) : W p l e room_1 s m9 #[.ref b] below meth c9 H locs cells slots Q (F0 m9 243 ls []) := by
  obtain ⟨m, c, nx, tn, R, P, A0, rls, bytes, len, fo, x, notes, nh, nr, nm, hour, broken, rung, grip, want, slips, worn, tape, sign, clause, clauses, S, w, im, imF, imX, imM, hN, b0, hBT, b2, hBRR, hBN, b5, hBH, hBO, hB8, hBP, hBS, hB11, hSc, hPs, hIm, hRu, hBM, hTP, hm6, hof, hox⟩ := T
  obtain ⟨S9, hA, hbA, hbl, hX, hL9, hF, hE9, hV9⟩ := id C
  obtain ⟨hx, hb, hml, hown, hts⟩ := id S9
  obtain ⟨k0, kLL, kTp, kRR, kS4, kW5, kH, kO, kW8, kW11, kM, kIm, kPs⟩ := id hF
  have hf9 : cells ≤ room_1.cells ∧ slots ≤ room_1.slots := ⟨Nat.le_trans (Nat.le_add_right _ _) hf.1, Nat.le_trans (Nat.le_add_right _ _) hf.2⟩
  obtain ⟨lg, rd, nxt, wrg, num, txt, mde, dep, lns, opn, opd, stk, tp, wd, wil, mov, brk, kpt, bhr, far, que, qud, onw, mvp, mvk, isf, sth, drx, b46⟩ := id hBM
  obtain ⟨kd, sg, ft, sa, sp, b1⟩ := id hBT
  obtain ⟨v, len1, tn1, hc, hm, hT1⟩ := r_end hTP (xs (i + 1))
  refine lv_aload_n hx hb dL_law_243 rfl (lv_at hl 2 rfl) ?_
  refine ld1 C hS hl hi dL_law_244 dL_law_245 dL_law_246 dL_law_247 dL_law_248 ?_
  obtain ⟨u1, hu1⟩ : ∃ X : va_W, X = cTp (ad 1) (cy 1) bytes len1 kd sg ft sa sp := ⟨_, rfl⟩
  obtain ⟨Lc, hLc⟩ : ∃ X : List (Nat × List (ClassId × FieldType) × va_W × va_W), X = [(0, tLL (cy 0), bs 0, bs 0), (1, tTp (cy 1), bs 1, u1)] := ⟨_, rfl⟩
  have hnd : (Lc.map Prod.fst).Nodup := by rw [hLc]; show ([0, 1] : List Nat).Nodup; simp only [List.nodup_cons, List.mem_cons, List.not_mem_nil, or_false, not_or, List.nodup_nil, and_true, not_false_eq_true] <;> omega
  have hlt : ∀ x ∈ Lc, x.1 < N := by rw [hLc]; exact List.forall_mem_cons.mpr ⟨show 0 < N by omega, List.forall_mem_cons.mpr ⟨show 1 < N by omega, fun _ h9 => absurd h9 List.not_mem_nil⟩⟩
  have hkL : ∀ x ∈ Lc, va_K D vwCl x.2.1 s := by rw [hLc]; exact List.forall_mem_cons.mpr ⟨kLL, List.forall_mem_cons.mpr ⟨kTp, fun _ h9 => absurd h9 List.not_mem_nil⟩⟩
  have hbL : ∀ x ∈ Lc, bs x.1 = x.2.2.1 := by rw [hLc]; exact List.forall_mem_cons.mpr ⟨rfl, List.forall_mem_cons.mpr ⟨rfl, fun _ h9 => absurd h9 List.not_mem_nil⟩⟩
  refine mbQ_i (As := [.int (xs (i + 1))]) (rest := []) Lc S9 k0 hP hD hS hA (c11_end (l := l) (D := D) (ad_this := (ad 0)) (cy_this := (cy 0)) (z_this_ladderReader := (ad 2 0)) (z_this_ruleReader := (ad 3 0)) (z_this_rules := rls) (z_this_ruleCount := (nn m)) (z_this_now := (ad 4 0)) (z_this_images := ims) (z_this_past := pst) (z_this_pastNext := (nn nx)) (z_this_pastCount := (nn c)) (z_this_hours := (ad 6 0)) (z_this_outlook := (ad 7 0)) (z_this_paths := (ad 9 0)) (z_this_siege := (ad 10 0)) (ad_this_tape := (ad 1)) (cy_this_tape := (cy 1)) (z_this_tape_bytes := bytes) (z_this_tape_length := len) (z_this_tape_kind := kd) (z_this_tape_sign := sg) (z_this_tape_fault := ft) (z_this_tape_start := sa) (z_this_tape_stop := sp) (a1 := (xs (i + 1))) (o_ret := v) (o_this_tape_length := len1) hc) hnd hlt hkL hbL (by rw [hLc]; rfl) (by rw [hLc]; simp only [List.flatMap_cons, List.flatMap_nil, List.append_nil, List.append_assoc]; rw [b0, b1]) (by rw [hLc]; simp only [List.flatMap_cons, List.flatMap_nil, List.append_nil, List.append_assoc]; rw [b0, hu1]) (gdV mw_8_21 mw_8_22 mw_8_23 mw_1_2 mw_9_0) rfl rfl hd_f11_end ⟨Nat.le_of_ble_eq_true rfl, Nat.le_of_ble_eq_true rfl⟩ (ci := 11) (q0 := 0) rfl rfl rfl hl.1 rfl (Nat.le_of_ble_eq_true rfl) dL_law_249 hf9 (fun H locs hP hD hS => ?_)
  obtain ⟨bc, hbc⟩ : ∃ X, X = bsetL bs Lc := ⟨_, rfl⟩
  rw [← hbc] at hP hD
  have t0 : bc 0 = bs 0 := by rw [hbc]; exact bsetL_at (x := (0, tLL (cy 0), bs 0, bs 0)) hnd (by rw [hLc]; exact List.mem_of_getElem? (i := 0) rfl)
  have t1 : bc 1 = u1 := by rw [hbc]; exact bsetL_at (x := (1, tTp (cy 1), bs 1, u1)) hnd (by rw [hLc]; exact List.mem_of_getElem? (i := 1) rfl)
  have E1 : ∀ j, (j ≠ 1) → bc j = bs j := by
    intro j hj
    by_cases q0 : j = 0
    · rw [q0]; exact t0
    rw [hbc]
    exact bsetL_ne (by rw [hLc]; show j ∉ ([0, 1] : List Nat); simp only [List.mem_cons, List.not_mem_nil, or_false, not_or]; omega)
  refine lv_aload_n hx hb dL_law_252 rfl (lv_at hl 1 rfl) ?_
  refine ld1 C hS hl hi dL_law_253 dL_law_254 dL_law_255 dL_law_256 dL_law_257 ?_
  obtain ⟨um, hum⟩ : ∃ X : va_W, X = (cM (ad 46) (cy 46) tape len1 (nn m) sign lg clause clauses rd nxt wrg num txt mde dep lns opn opd stk tp wd S fo x wil mov brk w (nn c) kpt bhr far que qud onw mvp mvk isf sth drx im imF imX imM) := ⟨_, rfl⟩
  have bm : bc 46 = _ := (E1 46 (by omega)).trans b46
  obtain ⟨Lm, hLm⟩ : ∃ X : List (Nat × List (ClassId × FieldType) × va_W × va_W), X = [(46, tM (cy 46), bc 46, um)] := ⟨_, rfl⟩
  have hnm : (Lm.map Prod.fst).Nodup := by rw [hLm]; show ([46] : List Nat).Nodup; decide
  refine mbQ_i (As := [.int (xs (i + 1))]) (rest := [.int v]) Lm S9 k0 hP hD hS hA (c12_end (l := l) (D := D) (ad := (ad 46)) (cy := (cy 46)) (z_tape := tape) (z_taped := len) (z_rules := (nn m)) (z_sign := sign) (z_length := lg) (z_clause := clause) (z_clauses := clauses) (z_read := rd) (z_next := nxt) (z_wrong := wrg) (z_number := num) (z_text := txt) (z_made := mde) (z_deep := dep) (z_lines := lns) (z_open := opn) (z_opened := opd) (z_stack := stk) (z_top := tp) (z_word := wd) (z_said := S) (z_force := fo) (z_x := x) (z_will := wil) (z_moved := mov) (z_broke := brk) (z_wasSaid := w) (z_undone := (nn c)) (z_kept := kpt) (z_breakHour := bhr) (z_far := far) (z_queue := que) (z_queued := qud) (z_isOnWay := onw) (z_movePerson := mvp) (z_moveKind := mvk) (z_isFit := isf) (z_standThen := sth) (z_drawX := drx) (z_images := im) (z_imageForce := imF) (z_imageX := imX) (z_isMade := imM) (a1 := (xs (i + 1))) (o_ret := v) (o_taped := len1) hm) hnm (by rw [hLm]; exact List.forall_mem_cons.mpr ⟨show 46 < N by omega, fun _ h9 => absurd h9 List.not_mem_nil⟩) (by rw [hLm]; exact List.forall_mem_cons.mpr ⟨kM, fun _ h9 => absurd h9 List.not_mem_nil⟩) (by rw [hLm]; exact List.forall_mem_cons.mpr ⟨rfl, fun _ h9 => absurd h9 List.not_mem_nil⟩) (by rw [hLm]; rfl) (by rw [hLm]; simp only [List.flatMap_cons, List.flatMap_nil, List.append_nil, List.append_assoc]; rw [bm]) (by rw [hLm]; simp only [List.flatMap_cons, List.flatMap_nil, List.append_nil, List.append_assoc]; rw [hum]) (gdV mw_9_1 mw_9_2 mw_9_3 mw_1_5 mw_9_4) rfl rfl hd_f12_end ⟨Nat.le_of_ble_eq_true rfl, Nat.le_of_ble_eq_true rfl⟩ (ci := 12) (q0 := 0) rfl rfl rfl hl.1 rfl (Nat.le_of_ble_eq_true rfl) dL_law_258 hf9 (fun H locs hP hD hS => ?_)
  obtain ⟨bn, hbn⟩ : ∃ X, X = bsetL bc Lm := ⟨_, rfl⟩
  rw [← hbn] at hP hD
  have tm : bn 46 = um := by rw [hbn]; exact bsetL_at (x := (46, tM (cy 46), bc 46, um)) hnm (by rw [hLm]; exact List.mem_of_getElem? (i := 0) rfl)
  have E2 : ∀ j, j ≠ 46 → bn j = bc j := by
    intro j hj
    rw [hbn]
    exact bsetL_ne (by rw [hLm]; show j ∉ ([46] : List Nat); simp only [List.mem_cons, List.not_mem_nil, or_false]; exact hj)
  have E : ∀ j, (j ≠ 46 ∧ j ≠ 1) → bn j = bs j := fun j hj => (E2 j (by omega)).trans (E1 j (by omega))
  have s1 : bn 1 = u1 := (E2 _ (by omega)).trans t1
  refine lv_icmp_eq (tgt := 1115) hx hb dL_law_261 rfl (fun _ => ?_) (fun c8 => absurd rfl c8)
  refine W.widen (k := cells + 8) (n := slots + 13200) (Nat.le_add_right _ _) (Nat.le_add_right _ _) ?_
  have EL : ∀ j, 47 ≤ j → j < N → bn j = bs j := fun j h1 h2 => E j (by omega)
  exact kk N bn H locs ⟨m, c, nx, tn1, R, P, A0, rls, bytes, len1, fo, x, notes, nh, nr, nm, hour, broken, rung, grip, want, slips, worn, tape, sign, clause, clauses, S, w, im, imF, imX, imM, hN, (E 0 (by omega)).trans b0, ⟨_, _, _, _, _, (s1.trans hu1)⟩, (E 2 (by omega)).trans b2, hBRR.congr (E 3 (by omega)), hBN.congr (E 4 (by omega)), (E 5 (by omega)).trans b5, hBH.congr (E 6 (by omega)), hBO.congr (E 7 (by omega)), hB8.congr (E 8 (by omega)), hBP.congr (E 9 (by omega)), hBS.congr (E 10 (by omega)), hB11.congr (E 11 (by omega)), hSc.congr (Nat.le_refl _) EL, hPs.congr (fun k hk => E _ (by omega)), hIm.congr (Nat.le_refl _) (Nat.le_refl _) (fun k hk => E _ (by omega)) EL, hRu.congr (fun j hj => E _ (by omega)) hm6, ⟨_, _, _, _, _, _, _, _, _, _, _, _, _, _, _, _, _, _, _, _, _, _, _, _, _, _, _, _, tm.trans hum⟩, hT1, hm6, hof, hox⟩ hP hD hS

set_option maxHeartbeats 8000000 in
set_option maxRecDepth 100000 in
theorem k_force (C : Cx p m9 c9 s A D adK adV ad cy ims pst b L xs) (hi : i + 6 ≤ L) (T : Top D s ad cy ims pst N bs) (hP : va_P D vwCl (bW N bs) H) (hD : va_D A (bW N bs)) (hS : va_S A s.heap H locs) (hl : lv_has ls 4 (lvL ad b i)) (hf : cells + 8 ≤ 600000 ∧ slots + 13200 ≤ 7302250)
    (kk : ∀ (N : Nat) (bs : Nat → va_W) (H : Heap) (locs : List Loc), Top D s ad cy ims pst N bs → va_P D vwCl (bW N bs) H → va_D A (bW N bs) → va_S A s.heap H locs → W p l e room_1 s m9 #[.ref b] below meth c9 H locs (cells + 8) (slots + 13200) Q (F0 m9 1115 ls [])) : W p l e room_1 s m9 #[.ref b] below meth c9 H locs cells slots Q (F0 m9 292 ls []) := by
  obtain ⟨m, c, nx, tn, R, P, A0, rls, bytes, len, fo, x, notes, nh, nr, nm, hour, broken, rung, grip, want, slips, worn, tape, sign, clause, clauses, S, w, im, imF, imX, imM, hN, b0, hBT, b2, hBRR, hBN, b5, hBH, hBO, hB8, hBP, hBS, hB11, hSc, hPs, hIm, hRu, hBM, hTP, hm6, hof, hox⟩ := T
  obtain ⟨S9, hA, hbA, hbl, hX, hL9, hF, hE9, hV9⟩ := id C
  obtain ⟨hx, hb, hml, hown, hts⟩ := id S9
  obtain ⟨k0, kLL, kTp, kRR, kS4, kW5, kH, kO, kW8, kW11, kM, kIm, kPs⟩ := id hF
  have hf9 : cells ≤ room_1.cells ∧ slots ≤ room_1.slots := ⟨Nat.le_trans (Nat.le_add_right _ _) hf.1, Nat.le_trans (Nat.le_add_right _ _) hf.2⟩
  obtain ⟨lg, rd, nxt, wrg, num, txt, mde, dep, lns, opn, opd, stk, tp, wd, wil, mov, brk, kpt, bhr, far, que, qud, onw, mvp, mvk, isf, sth, drx, b46⟩ := id hBM
  obtain ⟨md, b4⟩ := id hBN
  obtain ⟨v, fo1, hc, hm⟩ := r_force (force := fo) (N := m) (by omega) rfl (xs (i + 1))
  have ho1 := force_ok hm6 hc hof
  refine lv_aload_n hx hb dL_law_292 rfl (lv_at hl 2 rfl) ?_
  refine ld1 C hS hl hi dL_law_293 dL_law_294 dL_law_295 dL_law_296 dL_law_297 ?_
  obtain ⟨u4, hu4⟩ : ∃ X : va_W, X = cSt (ad 4) (cy 4) (ad 5 0) fo1 x notes nh nr nm md := ⟨_, rfl⟩
  obtain ⟨Lc, hLc⟩ : ∃ X : List (Nat × List (ClassId × FieldType) × va_W × va_W), X = [(0, tLL (cy 0), bs 0, bs 0), (4, tSt (cy 4), bs 4, u4)] := ⟨_, rfl⟩
  have hnd : (Lc.map Prod.fst).Nodup := by rw [hLc]; show ([0, 4] : List Nat).Nodup; simp only [List.nodup_cons, List.mem_cons, List.not_mem_nil, or_false, not_or, List.nodup_nil, and_true, not_false_eq_true] <;> omega
  have hlt : ∀ x ∈ Lc, x.1 < N := by rw [hLc]; exact List.forall_mem_cons.mpr ⟨show 0 < N by omega, List.forall_mem_cons.mpr ⟨show 4 < N by omega, fun _ h9 => absurd h9 List.not_mem_nil⟩⟩
  have hkL : ∀ x ∈ Lc, va_K D vwCl x.2.1 s := by rw [hLc]; exact List.forall_mem_cons.mpr ⟨kLL, List.forall_mem_cons.mpr ⟨kS4, fun _ h9 => absurd h9 List.not_mem_nil⟩⟩
  have hbL : ∀ x ∈ Lc, bs x.1 = x.2.2.1 := by rw [hLc]; exact List.forall_mem_cons.mpr ⟨rfl, List.forall_mem_cons.mpr ⟨rfl, fun _ h9 => absurd h9 List.not_mem_nil⟩⟩
  refine mbQ_i (As := [.int (xs (i + 1))]) (rest := []) Lc S9 k0 hP hD hS hA (c11_force (l := l) (D := D) (ad_this := (ad 0)) (cy_this := (cy 0)) (z_this_tape := (ad 1 0)) (z_this_ladderReader := (ad 2 0)) (z_this_ruleReader := (ad 3 0)) (z_this_rules := rls) (z_this_ruleCount := (nn m)) (z_this_images := ims) (z_this_past := pst) (z_this_pastNext := (nn nx)) (z_this_pastCount := (nn c)) (z_this_hours := (ad 6 0)) (z_this_outlook := (ad 7 0)) (z_this_paths := (ad 9 0)) (z_this_siege := (ad 10 0)) (ad_this_now := (ad 4)) (cy_this_now := (cy 4)) (z_this_now_world := (ad 5 0)) (z_this_now_force := fo) (z_this_now_x := x) (z_this_now_notes := notes) (z_this_now_noteHour := nh) (z_this_now_noteRung := nr) (z_this_now_noteMany := nm) (z_this_now_made := md) (a1 := (xs (i + 1))) (o_ret := v) (o_this_now_force := fo1) hc) hnd hlt hkL hbL (by rw [hLc]; rfl) (by rw [hLc]; simp only [List.flatMap_cons, List.flatMap_nil, List.append_nil, List.append_assoc]; rw [b0, b4]) (by rw [hLc]; simp only [List.flatMap_cons, List.flatMap_nil, List.append_nil, List.append_assoc]; rw [b0, hu4]) (gdV mw_26_17 mw_26_18 mw_26_19 mw_1_2 mw_26_20) rfl rfl hd_f11_force ⟨Nat.le_of_ble_eq_true rfl, Nat.le_of_ble_eq_true rfl⟩ (ci := 11) (q0 := 0) rfl rfl rfl hl.1 rfl (Nat.le_of_ble_eq_true rfl) dL_law_298 hf9 (fun H locs hP hD hS => ?_)
  obtain ⟨bc, hbc⟩ : ∃ X, X = bsetL bs Lc := ⟨_, rfl⟩
  rw [← hbc] at hP hD
  have t0 : bc 0 = bs 0 := by rw [hbc]; exact bsetL_at (x := (0, tLL (cy 0), bs 0, bs 0)) hnd (by rw [hLc]; exact List.mem_of_getElem? (i := 0) rfl)
  have t1 : bc 4 = u4 := by rw [hbc]; exact bsetL_at (x := (4, tSt (cy 4), bs 4, u4)) hnd (by rw [hLc]; exact List.mem_of_getElem? (i := 1) rfl)
  have E1 : ∀ j, (j ≠ 4) → bc j = bs j := by
    intro j hj
    by_cases q0 : j = 0
    · rw [q0]; exact t0
    rw [hbc]
    exact bsetL_ne (by rw [hLc]; show j ∉ ([0, 4] : List Nat); simp only [List.mem_cons, List.not_mem_nil, or_false, not_or]; omega)
  refine lv_aload_n hx hb dL_law_301 rfl (lv_at hl 1 rfl) ?_
  refine ld1 C hS hl hi dL_law_302 dL_law_303 dL_law_304 dL_law_305 dL_law_306 ?_
  obtain ⟨um, hum⟩ : ∃ X : va_W, X = (cM (ad 46) (cy 46) tape len (nn m) sign lg clause clauses rd nxt wrg num txt mde dep lns opn opd stk tp wd S fo1 x wil mov brk w (nn c) kpt bhr far que qud onw mvp mvk isf sth drx im imF imX imM) := ⟨_, rfl⟩
  have bm : bc 46 = _ := (E1 46 (by omega)).trans b46
  obtain ⟨Lm, hLm⟩ : ∃ X : List (Nat × List (ClassId × FieldType) × va_W × va_W), X = [(46, tM (cy 46), bc 46, um)] := ⟨_, rfl⟩
  have hnm : (Lm.map Prod.fst).Nodup := by rw [hLm]; show ([46] : List Nat).Nodup; decide
  refine mbQ_i (As := [.int (xs (i + 1))]) (rest := [.int v]) Lm S9 k0 hP hD hS hA (c12_force (l := l) (D := D) (ad := (ad 46)) (cy := (cy 46)) (z_tape := tape) (z_taped := len) (z_rules := (nn m)) (z_sign := sign) (z_length := lg) (z_clause := clause) (z_clauses := clauses) (z_read := rd) (z_next := nxt) (z_wrong := wrg) (z_number := num) (z_text := txt) (z_made := mde) (z_deep := dep) (z_lines := lns) (z_open := opn) (z_opened := opd) (z_stack := stk) (z_top := tp) (z_word := wd) (z_said := S) (z_force := fo) (z_x := x) (z_will := wil) (z_moved := mov) (z_broke := brk) (z_wasSaid := w) (z_undone := (nn c)) (z_kept := kpt) (z_breakHour := bhr) (z_far := far) (z_queue := que) (z_queued := qud) (z_isOnWay := onw) (z_movePerson := mvp) (z_moveKind := mvk) (z_isFit := isf) (z_standThen := sth) (z_drawX := drx) (z_images := im) (z_imageForce := imF) (z_imageX := imX) (z_isMade := imM) (a1 := (xs (i + 1))) (o_ret := v) (o_force := fo1) hm) hnm (by rw [hLm]; exact List.forall_mem_cons.mpr ⟨show 46 < N by omega, fun _ h9 => absurd h9 List.not_mem_nil⟩) (by rw [hLm]; exact List.forall_mem_cons.mpr ⟨kM, fun _ h9 => absurd h9 List.not_mem_nil⟩) (by rw [hLm]; exact List.forall_mem_cons.mpr ⟨rfl, fun _ h9 => absurd h9 List.not_mem_nil⟩) (by rw [hLm]; rfl) (by rw [hLm]; simp only [List.flatMap_cons, List.flatMap_nil, List.append_nil, List.append_assoc]; rw [bm]) (by rw [hLm]; simp only [List.flatMap_cons, List.flatMap_nil, List.append_nil, List.append_assoc]; rw [hum]) (gdV mw_26_22 mw_26_23 mw_27_0 mw_1_5 mw_27_1) rfl rfl hd_f12_force ⟨Nat.le_of_ble_eq_true rfl, Nat.le_of_ble_eq_true rfl⟩ (ci := 12) (q0 := 0) rfl rfl rfl hl.1 rfl (Nat.le_of_ble_eq_true rfl) dL_law_307 hf9 (fun H locs hP hD hS => ?_)
  obtain ⟨bn, hbn⟩ : ∃ X, X = bsetL bc Lm := ⟨_, rfl⟩
  rw [← hbn] at hP hD
  have tm : bn 46 = um := by rw [hbn]; exact bsetL_at (x := (46, tM (cy 46), bc 46, um)) hnm (by rw [hLm]; exact List.mem_of_getElem? (i := 0) rfl)
  have E2 : ∀ j, j ≠ 46 → bn j = bc j := by
    intro j hj
    rw [hbn]
    exact bsetL_ne (by rw [hLm]; show j ∉ ([46] : List Nat); simp only [List.mem_cons, List.not_mem_nil, or_false]; exact hj)
  have E : ∀ j, (j ≠ 46 ∧ j ≠ 4) → bn j = bs j := fun j hj => (E2 j (by omega)).trans (E1 j (by omega))
  have s1 : bn 4 = u4 := (E2 _ (by omega)).trans t1
  refine lv_icmp_eq (tgt := 1115) hx hb dL_law_310 rfl (fun _ => ?_) (fun c8 => absurd rfl c8)
  refine W.widen (k := cells + 8) (n := slots + 13200) (Nat.le_add_right _ _) (Nat.le_add_right _ _) ?_
  have EL : ∀ j, 47 ≤ j → j < N → bn j = bs j := fun j h1 h2 => E j (by omega)
  exact kk N bn H locs ⟨m, c, nx, tn, R, P, A0, rls, bytes, len, fo1, x, notes, nh, nr, nm, hour, broken, rung, grip, want, slips, worn, tape, sign, clause, clauses, S, w, im, imF, imX, imM, hN, (E 0 (by omega)).trans b0, hBT.congr (E 1 (by omega)), (E 2 (by omega)).trans b2, hBRR.congr (E 3 (by omega)), ⟨_, (s1.trans hu4)⟩, (E 5 (by omega)).trans b5, hBH.congr (E 6 (by omega)), hBO.congr (E 7 (by omega)), hB8.congr (E 8 (by omega)), hBP.congr (E 9 (by omega)), hBS.congr (E 10 (by omega)), hB11.congr (E 11 (by omega)), hSc.congr (Nat.le_refl _) EL, hPs.congr (fun k hk => E _ (by omega)), hIm.congr (Nat.le_refl _) (Nat.le_refl _) (fun k hk => E _ (by omega)) EL, hRu.congr (fun j hj => E _ (by omega)) hm6, ⟨_, _, _, _, _, _, _, _, _, _, _, _, _, _, _, _, _, _, _, _, _, _, _, _, _, _, _, _, tm.trans hum⟩, hTP, hm6, ho1, hox⟩ hP hD hS

set_option maxHeartbeats 8000000 in
set_option maxRecDepth 100000 in
theorem k_seed (C : Cx p m9 c9 s A D adK adV ad cy ims pst b L xs) (hi : i + 6 ≤ L) (T : Top D s ad cy ims pst N bs) (hP : va_P D vwCl (bW N bs) H) (hD : va_D A (bW N bs)) (hS : va_S A s.heap H locs) (hl : lv_has ls 4 (lvL ad b i)) (hf : cells + 8 ≤ 600000 ∧ slots + 13200 ≤ 7302250)
    (kk : ∀ (N : Nat) (bs : Nat → va_W) (H : Heap) (locs : List Loc), Top D s ad cy ims pst N bs → va_P D vwCl (bW N bs) H → va_D A (bW N bs) → va_S A s.heap H locs → W p l e room_1 s m9 #[.ref b] below meth c9 H locs (cells + 8) (slots + 13200) Q (F0 m9 1115 ls [])) : W p l e room_1 s m9 #[.ref b] below meth c9 H locs cells slots Q (F0 m9 970 ls []) := by
  obtain ⟨m, c, nx, tn, R, P, A0, rls, bytes, len, fo, x, notes, nh, nr, nm, hour, broken, rung, grip, want, slips, worn, tape, sign, clause, clauses, S, w, im, imF, imX, imM, hN, b0, hBT, b2, hBRR, hBN, b5, hBH, hBO, hB8, hBP, hBS, hB11, hSc, hPs, hIm, hRu, hBM, hTP, hm6, hof, hox⟩ := T
  obtain ⟨S9, hA, hbA, hbl, hX, hL9, hF, hE9, hV9⟩ := id C
  obtain ⟨hx, hb, hml, hown, hts⟩ := id S9
  obtain ⟨k0, kLL, kTp, kRR, kS4, kW5, kH, kO, kW8, kW11, kM, kIm, kPs⟩ := id hF
  have hf9 : cells ≤ room_1.cells ∧ slots ≤ room_1.slots := ⟨Nat.le_trans (Nat.le_add_right _ _) hf.1, Nat.le_trans (Nat.le_add_right _ _) hf.2⟩
  obtain ⟨lg, rd, nxt, wrg, num, txt, mde, dep, lns, opn, opd, stk, tp, wd, wil, mov, brk, kpt, bhr, far, que, qud, onw, mvp, mvk, isf, sth, drx, b46⟩ := id hBM
  obtain ⟨md, b4⟩ := id hBN
  obtain ⟨v, x1, hc, hm, ho1⟩ := r_seed hox (xs (i + 1))
  refine lv_aload_n hx hb dL_law_970 rfl (lv_at hl 2 rfl) ?_
  refine ld1 C hS hl hi dL_law_971 dL_law_972 dL_law_973 dL_law_974 dL_law_975 ?_
  obtain ⟨u4, hu4⟩ : ∃ X : va_W, X = cSt (ad 4) (cy 4) (ad 5 0) fo x1 notes nh nr nm md := ⟨_, rfl⟩
  obtain ⟨Lc, hLc⟩ : ∃ X : List (Nat × List (ClassId × FieldType) × va_W × va_W), X = [(0, tLL (cy 0), bs 0, bs 0), (4, tSt (cy 4), bs 4, u4)] := ⟨_, rfl⟩
  have hnd : (Lc.map Prod.fst).Nodup := by rw [hLc]; show ([0, 4] : List Nat).Nodup; simp only [List.nodup_cons, List.mem_cons, List.not_mem_nil, or_false, not_or, List.nodup_nil, and_true, not_false_eq_true] <;> omega
  have hlt : ∀ x ∈ Lc, x.1 < N := by rw [hLc]; exact List.forall_mem_cons.mpr ⟨show 0 < N by omega, List.forall_mem_cons.mpr ⟨show 4 < N by omega, fun _ h9 => absurd h9 List.not_mem_nil⟩⟩
  have hkL : ∀ x ∈ Lc, va_K D vwCl x.2.1 s := by rw [hLc]; exact List.forall_mem_cons.mpr ⟨kLL, List.forall_mem_cons.mpr ⟨kS4, fun _ h9 => absurd h9 List.not_mem_nil⟩⟩
  have hbL : ∀ x ∈ Lc, bs x.1 = x.2.2.1 := by rw [hLc]; exact List.forall_mem_cons.mpr ⟨rfl, List.forall_mem_cons.mpr ⟨rfl, fun _ h9 => absurd h9 List.not_mem_nil⟩⟩
  refine mbQ_i (As := [.int (xs (i + 1))]) (rest := []) Lc S9 k0 hP hD hS hA (c11_seed (l := l) (D := D) (ad_this := (ad 0)) (cy_this := (cy 0)) (z_this_tape := (ad 1 0)) (z_this_ladderReader := (ad 2 0)) (z_this_ruleReader := (ad 3 0)) (z_this_rules := rls) (z_this_ruleCount := (nn m)) (z_this_images := ims) (z_this_past := pst) (z_this_pastNext := (nn nx)) (z_this_pastCount := (nn c)) (z_this_hours := (ad 6 0)) (z_this_outlook := (ad 7 0)) (z_this_paths := (ad 9 0)) (z_this_siege := (ad 10 0)) (ad_this_now := (ad 4)) (cy_this_now := (cy 4)) (z_this_now_world := (ad 5 0)) (z_this_now_force := fo) (z_this_now_x := x) (z_this_now_notes := notes) (z_this_now_noteHour := nh) (z_this_now_noteRung := nr) (z_this_now_noteMany := nm) (z_this_now_made := md) (a1 := (xs (i + 1))) (o_ret := v) (o_this_now_x := x1) hc) hnd hlt hkL hbL (by rw [hLc]; rfl) (by rw [hLc]; simp only [List.flatMap_cons, List.flatMap_nil, List.append_nil, List.append_assoc]; rw [b0, b4]) (by rw [hLc]; simp only [List.flatMap_cons, List.flatMap_nil, List.append_nil, List.append_assoc]; rw [b0, hu4]) (gdV mw_60_12 mw_60_13 mw_60_14 mw_1_2 mw_60_15) rfl rfl hd_f11_seed ⟨Nat.le_of_ble_eq_true rfl, Nat.le_of_ble_eq_true rfl⟩ (ci := 11) (q0 := 0) rfl rfl rfl hl.1 rfl (Nat.le_of_ble_eq_true rfl) dL_law_976 hf9 (fun H locs hP hD hS => ?_)
  obtain ⟨bc, hbc⟩ : ∃ X, X = bsetL bs Lc := ⟨_, rfl⟩
  rw [← hbc] at hP hD
  have t0 : bc 0 = bs 0 := by rw [hbc]; exact bsetL_at (x := (0, tLL (cy 0), bs 0, bs 0)) hnd (by rw [hLc]; exact List.mem_of_getElem? (i := 0) rfl)
  have t1 : bc 4 = u4 := by rw [hbc]; exact bsetL_at (x := (4, tSt (cy 4), bs 4, u4)) hnd (by rw [hLc]; exact List.mem_of_getElem? (i := 1) rfl)
  have E1 : ∀ j, (j ≠ 4) → bc j = bs j := by
    intro j hj
    by_cases q0 : j = 0
    · rw [q0]; exact t0
    rw [hbc]
    exact bsetL_ne (by rw [hLc]; show j ∉ ([0, 4] : List Nat); simp only [List.mem_cons, List.not_mem_nil, or_false, not_or]; omega)
  refine lv_aload_n hx hb dL_law_979 rfl (lv_at hl 1 rfl) ?_
  refine ld1 C hS hl hi dL_law_980 dL_law_981 dL_law_982 dL_law_983 dL_law_984 ?_
  obtain ⟨um, hum⟩ : ∃ X : va_W, X = (cM (ad 46) (cy 46) tape len (nn m) sign lg clause clauses rd nxt wrg num txt mde dep lns opn opd stk tp wd S fo x1 wil mov brk w (nn c) kpt bhr far que qud onw mvp mvk isf sth drx im imF imX imM) := ⟨_, rfl⟩
  have bm : bc 46 = _ := (E1 46 (by omega)).trans b46
  obtain ⟨Lm, hLm⟩ : ∃ X : List (Nat × List (ClassId × FieldType) × va_W × va_W), X = [(46, tM (cy 46), bc 46, um)] := ⟨_, rfl⟩
  have hnm : (Lm.map Prod.fst).Nodup := by rw [hLm]; show ([46] : List Nat).Nodup; decide
  refine mbQ_i (As := [.int (xs (i + 1))]) (rest := [.int v]) Lm S9 k0 hP hD hS hA (c12_seed (l := l) (D := D) (ad := (ad 46)) (cy := (cy 46)) (z_tape := tape) (z_taped := len) (z_rules := (nn m)) (z_sign := sign) (z_length := lg) (z_clause := clause) (z_clauses := clauses) (z_read := rd) (z_next := nxt) (z_wrong := wrg) (z_number := num) (z_text := txt) (z_made := mde) (z_deep := dep) (z_lines := lns) (z_open := opn) (z_opened := opd) (z_stack := stk) (z_top := tp) (z_word := wd) (z_said := S) (z_force := fo) (z_x := x) (z_will := wil) (z_moved := mov) (z_broke := brk) (z_wasSaid := w) (z_undone := (nn c)) (z_kept := kpt) (z_breakHour := bhr) (z_far := far) (z_queue := que) (z_queued := qud) (z_isOnWay := onw) (z_movePerson := mvp) (z_moveKind := mvk) (z_isFit := isf) (z_standThen := sth) (z_drawX := drx) (z_images := im) (z_imageForce := imF) (z_imageX := imX) (z_isMade := imM) (a1 := (xs (i + 1))) (o_ret := v) (o_x := x1) hm) hnm (by rw [hLm]; exact List.forall_mem_cons.mpr ⟨show 46 < N by omega, fun _ h9 => absurd h9 List.not_mem_nil⟩) (by rw [hLm]; exact List.forall_mem_cons.mpr ⟨kM, fun _ h9 => absurd h9 List.not_mem_nil⟩) (by rw [hLm]; exact List.forall_mem_cons.mpr ⟨rfl, fun _ h9 => absurd h9 List.not_mem_nil⟩) (by rw [hLm]; rfl) (by rw [hLm]; simp only [List.flatMap_cons, List.flatMap_nil, List.append_nil, List.append_assoc]; rw [bm]) (by rw [hLm]; simp only [List.flatMap_cons, List.flatMap_nil, List.append_nil, List.append_assoc]; rw [hum]) (gdV mw_60_17 mw_60_18 mw_60_19 mw_1_5 mw_60_20) rfl rfl hd_f12_seed ⟨Nat.le_of_ble_eq_true rfl, Nat.le_of_ble_eq_true rfl⟩ (ci := 12) (q0 := 0) rfl rfl rfl hl.1 rfl (Nat.le_of_ble_eq_true rfl) dL_law_985 hf9 (fun H locs hP hD hS => ?_)
  obtain ⟨bn, hbn⟩ : ∃ X, X = bsetL bc Lm := ⟨_, rfl⟩
  rw [← hbn] at hP hD
  have tm : bn 46 = um := by rw [hbn]; exact bsetL_at (x := (46, tM (cy 46), bc 46, um)) hnm (by rw [hLm]; exact List.mem_of_getElem? (i := 0) rfl)
  have E2 : ∀ j, j ≠ 46 → bn j = bc j := by
    intro j hj
    rw [hbn]
    exact bsetL_ne (by rw [hLm]; show j ∉ ([46] : List Nat); simp only [List.mem_cons, List.not_mem_nil, or_false]; exact hj)
  have E : ∀ j, (j ≠ 46 ∧ j ≠ 4) → bn j = bs j := fun j hj => (E2 j (by omega)).trans (E1 j (by omega))
  have s1 : bn 4 = u4 := (E2 _ (by omega)).trans t1
  refine lv_icmp_eq (tgt := 1115) hx hb dL_law_988 rfl (fun _ => ?_) (fun c8 => absurd rfl c8)
  refine W.widen (k := cells + 8) (n := slots + 13200) (Nat.le_add_right _ _) (Nat.le_add_right _ _) ?_
  have EL : ∀ j, 47 ≤ j → j < N → bn j = bs j := fun j h1 h2 => E j (by omega)
  exact kk N bn H locs ⟨m, c, nx, tn, R, P, A0, rls, bytes, len, fo, x1, notes, nh, nr, nm, hour, broken, rung, grip, want, slips, worn, tape, sign, clause, clauses, S, w, im, imF, imX, imM, hN, (E 0 (by omega)).trans b0, hBT.congr (E 1 (by omega)), (E 2 (by omega)).trans b2, hBRR.congr (E 3 (by omega)), ⟨_, (s1.trans hu4)⟩, (E 5 (by omega)).trans b5, hBH.congr (E 6 (by omega)), hBO.congr (E 7 (by omega)), hB8.congr (E 8 (by omega)), hBP.congr (E 9 (by omega)), hBS.congr (E 10 (by omega)), hB11.congr (E 11 (by omega)), hSc.congr (Nat.le_refl _) EL, hPs.congr (fun k hk => E _ (by omega)), hIm.congr (Nat.le_refl _) (Nat.le_refl _) (fun k hk => E _ (by omega)) EL, hRu.congr (fun j hj => E _ (by omega)) hm6, ⟨_, _, _, _, _, _, _, _, _, _, _, _, _, _, _, _, _, _, _, _, _, _, _, _, _, _, _, _, tm.trans hum⟩, hTP, hm6, hof, ho1⟩ hP hD hS

set_option maxHeartbeats 8000000 in
set_option maxRecDepth 100000 in
theorem k_person (C : Cx p m9 c9 s A D adK adV ad cy ims pst b L xs) (hi : i + 6 ≤ L) (T : Top D s ad cy ims pst N bs) (hP : va_P D vwCl (bW N bs) H) (hD : va_D A (bW N bs)) (hS : va_S A s.heap H locs) (hl : lv_has ls 4 (lvL ad b i)) (hf : cells + 8 ≤ 600000 ∧ slots + 13200 ≤ 7302250)
    (kk : ∀ (N : Nat) (bs : Nat → va_W) (H : Heap) (locs : List Loc), Top D s ad cy ims pst N bs → va_P D vwCl (bW N bs) H → va_D A (bW N bs) → va_S A s.heap H locs → W p l e room_1 s m9 #[.ref b] below meth c9 H locs (cells + 8) (slots + 13200) Q (F0 m9 1115 ls [])) : W p l e room_1 s m9 #[.ref b] below meth c9 H locs cells slots Q (F0 m9 315 ls []) := by
  obtain ⟨m, c, nx, tn, R, P, A0, rls, bytes, len, fo, x, notes, nh, nr, nm, hour, broken, rung, grip, want, slips, worn, tape, sign, clause, clauses, S, w, im, imF, imX, imM, hN, b0, hBT, b2, hBRR, hBN, b5, hBH, hBO, hB8, hBP, hBS, hB11, hSc, hPs, hIm, hRu, hBM, hTP, hm6, hof, hox⟩ := T
  obtain ⟨S9, hA, hbA, hbl, hX, hL9, hF, hE9, hV9⟩ := id C
  obtain ⟨hx, hb, hml, hown, hts⟩ := id S9
  obtain ⟨k0, kLL, kTp, kRR, kS4, kW5, kH, kO, kW8, kW11, kM, kIm, kPs⟩ := id hF
  have hf9 : cells ≤ room_1.cells ∧ slots ≤ room_1.slots := ⟨Nat.le_trans (Nat.le_add_right _ _) hf.1, Nat.le_trans (Nat.le_add_right _ _) hf.2⟩
  obtain ⟨lg, rd, nxt, wrg, num, txt, mde, dep, lns, opn, opd, stk, tp, wd, wil, mov, brk, kpt, bhr, far, que, qud, onw, mvp, mvk, isf, sth, drx, b46⟩ := id hBM
  obtain ⟨jl, lh, ly, ru, pe, sb, ro, str, wt, tol, srr, sww, g1, g2, g3, bl, kl, hI, hW, hL, hWT, hBg, hhr, hNo⟩ := id hSc
  subst g3
  obtain ⟨md, b4⟩ := id hBN
  obtain ⟨v, hc, hm⟩ := r_person hI hW hL (xs (i + 1)) (xs (i + 2))
  refine lv_aload_n hx hb dL_law_315 rfl (lv_at hl 2 rfl) ?_
  refine ld1 C hS hl hi dL_law_316 dL_law_317 dL_law_318 dL_law_319 dL_law_320 ?_
  refine ld2 C hS hl hi dL_law_321 dL_law_322 dL_law_323 dL_law_324 dL_law_325 ?_
  obtain ⟨Lc, hLc⟩ : ∃ X : List (Nat × List (ClassId × FieldType) × va_W × va_W), X = [(0, tLL (cy 0), bs 0, bs 0), (4, tSt (cy 4), bs 4, bs 4), (5, tW (cy 5), bs 5, bs 5), (jl, tLd ly, bs jl, bs jl)] := ⟨_, rfl⟩
  have hnd : (Lc.map Prod.fst).Nodup := by rw [hLc]; show ([0, 4, 5, jl] : List Nat).Nodup; simp only [List.nodup_cons, List.mem_cons, List.not_mem_nil, or_false, not_or, List.nodup_nil, and_true, not_false_eq_true] <;> omega
  have hlt : ∀ x ∈ Lc, x.1 < N := by rw [hLc]; exact List.forall_mem_cons.mpr ⟨show 0 < N by omega, List.forall_mem_cons.mpr ⟨show 4 < N by omega, List.forall_mem_cons.mpr ⟨show 5 < N by omega, List.forall_mem_cons.mpr ⟨show jl < N by omega, fun _ h9 => absurd h9 List.not_mem_nil⟩⟩⟩⟩
  have hkL : ∀ x ∈ Lc, va_K D vwCl x.2.1 s := by rw [hLc]; exact List.forall_mem_cons.mpr ⟨kLL, List.forall_mem_cons.mpr ⟨kS4, List.forall_mem_cons.mpr ⟨kW5, List.forall_mem_cons.mpr ⟨kl, fun _ h9 => absurd h9 List.not_mem_nil⟩⟩⟩⟩
  have hbL : ∀ x ∈ Lc, bs x.1 = x.2.2.1 := by rw [hLc]; exact List.forall_mem_cons.mpr ⟨rfl, List.forall_mem_cons.mpr ⟨rfl, List.forall_mem_cons.mpr ⟨rfl, List.forall_mem_cons.mpr ⟨rfl, fun _ h9 => absurd h9 List.not_mem_nil⟩⟩⟩⟩
  refine mbQ_i (As := [.int (xs (i + 1)), .int (xs (i + 2))]) (rest := []) Lc S9 k0 hP hD hS hA (c11_person (l := l) (D := D) (ad_this := (ad 0)) (cy_this := (cy 0)) (z_this_tape := (ad 1 0)) (z_this_ladderReader := (ad 2 0)) (z_this_ruleReader := (ad 3 0)) (z_this_rules := rls) (z_this_ruleCount := (nn m)) (z_this_images := ims) (z_this_past := pst) (z_this_pastNext := (nn nx)) (z_this_pastCount := (nn c)) (z_this_hours := (ad 6 0)) (z_this_outlook := (ad 7 0)) (z_this_paths := (ad 9 0)) (z_this_siege := (ad 10 0)) (ad_this_now := (ad 4)) (cy_this_now := (cy 4)) (z_this_now_force := fo) (z_this_now_x := x) (z_this_now_notes := notes) (z_this_now_noteHour := nh) (z_this_now_noteRung := nr) (z_this_now_noteMany := nm) (z_this_now_made := md) (ad_this_now_world := (ad 5)) (cy_this_now_world := (cy 5)) (z_this_now_world_hour := hour) (z_this_now_world_broken := broken) (z_this_now_world_rung := rung) (z_this_now_world_grip := grip) (z_this_now_world_want := want) (z_this_now_world_slips := slips) (z_this_now_world_worn := worn) (ad_this_now_world_ladder := lh) (cy_this_now_world_ladder := ly) (z_this_now_world_ladder_rungs := ru) (z_this_now_world_ladder_people := pe) (z_this_now_world_ladder_startBroken := sb) (z_this_now_world_ladder_room := ro) (z_this_now_world_ladder_strength := str) (z_this_now_world_ladder_weight := wt) (z_this_now_world_ladder_told := tol) (z_this_now_world_ladder_startRung := srr) (z_this_now_world_ladder_startWant := sww) (a1 := (xs (i + 1))) (a2 := (xs (i + 2))) (o_ret := v) hc) hnd hlt hkL hbL (by rw [hLc]; rfl) (by rw [hLc]; simp only [List.flatMap_cons, List.flatMap_nil, List.append_nil, List.append_assoc]; rw [b0, b4, b5, bl]) (by rw [hLc]; simp only [List.flatMap_cons, List.flatMap_nil, List.append_nil, List.append_assoc]; rw [b0, b4, b5, bl]) (gdV mw_27_6 mw_27_7 mw_27_8 mw_1_2 mw_27_9) rfl rfl hd_f11_person ⟨Nat.le_of_ble_eq_true rfl, Nat.le_of_ble_eq_true rfl⟩ (ci := 11) (q0 := 0) rfl rfl rfl hl.1 rfl (Nat.le_of_ble_eq_true rfl) dL_law_326 hf9 (fun H locs hP hD hS => ?_)
  obtain ⟨bc, hbc⟩ : ∃ X, X = bsetL bs Lc := ⟨_, rfl⟩
  rw [← hbc] at hP hD
  have t0 : bc 0 = bs 0 := by rw [hbc]; exact bsetL_at (x := (0, tLL (cy 0), bs 0, bs 0)) hnd (by rw [hLc]; exact List.mem_of_getElem? (i := 0) rfl)
  have t1 : bc 4 = bs 4 := by rw [hbc]; exact bsetL_at (x := (4, tSt (cy 4), bs 4, bs 4)) hnd (by rw [hLc]; exact List.mem_of_getElem? (i := 1) rfl)
  have t2 : bc 5 = bs 5 := by rw [hbc]; exact bsetL_at (x := (5, tW (cy 5), bs 5, bs 5)) hnd (by rw [hLc]; exact List.mem_of_getElem? (i := 2) rfl)
  have t3 : bc jl = bs jl := by rw [hbc]; exact bsetL_at (x := (jl, tLd ly, bs jl, bs jl)) hnd (by rw [hLc]; exact List.mem_of_getElem? (i := 3) rfl)
  have E1 : ∀ j, bc j = bs j := by
    intro j
    by_cases q0 : j = 0
    · rw [q0]; exact t0
    by_cases q1 : j = 4
    · rw [q1]; exact t1
    by_cases q2 : j = 5
    · rw [q2]; exact t2
    by_cases q3 : j = jl
    · rw [q3]; exact t3
    rw [hbc]
    exact bsetL_ne (by rw [hLc]; show j ∉ ([0, 4, 5, jl] : List Nat); simp only [List.mem_cons, List.not_mem_nil, or_false, not_or]; omega)
  refine lv_aload_n hx hb dL_law_329 rfl (lv_at hl 1 rfl) ?_
  refine ld1 C hS hl hi dL_law_330 dL_law_331 dL_law_332 dL_law_333 dL_law_334 ?_
  refine ld2 C hS hl hi dL_law_335 dL_law_336 dL_law_337 dL_law_338 dL_law_339 ?_
  obtain ⟨um, hum⟩ : ∃ X : va_W, X = (cM (ad 46) (cy 46) tape len (nn m) sign lg clause clauses rd nxt wrg num txt mde dep lns opn opd stk tp wd S fo x wil mov brk w (nn c) kpt bhr far que qud onw mvp mvk isf sth drx im imF imX imM) := ⟨_, rfl⟩
  have bm : bc 46 = _ := (E1 46).trans b46
  obtain ⟨Lm, hLm⟩ : ∃ X : List (Nat × List (ClassId × FieldType) × va_W × va_W), X = [(46, tM (cy 46), bc 46, um)] := ⟨_, rfl⟩
  have hnm : (Lm.map Prod.fst).Nodup := by rw [hLm]; show ([46] : List Nat).Nodup; decide
  refine mbQ_i (As := [.int (xs (i + 1)), .int (xs (i + 2))]) (rest := [.int v]) Lm S9 k0 hP hD hS hA (c12_person (l := l) (D := D) (ad := (ad 46)) (cy := (cy 46)) (z_tape := tape) (z_taped := len) (z_rules := (nn m)) (z_sign := sign) (z_length := lg) (z_clause := clause) (z_clauses := clauses) (z_read := rd) (z_next := nxt) (z_wrong := wrg) (z_number := num) (z_text := txt) (z_made := mde) (z_deep := dep) (z_lines := lns) (z_open := opn) (z_opened := opd) (z_stack := stk) (z_top := tp) (z_word := wd) (z_said := S) (z_force := fo) (z_x := x) (z_will := wil) (z_moved := mov) (z_broke := brk) (z_wasSaid := w) (z_undone := (nn c)) (z_kept := kpt) (z_breakHour := bhr) (z_far := far) (z_queue := que) (z_queued := qud) (z_isOnWay := onw) (z_movePerson := mvp) (z_moveKind := mvk) (z_isFit := isf) (z_standThen := sth) (z_drawX := drx) (z_images := im) (z_imageForce := imF) (z_imageX := imX) (z_isMade := imM) (a1 := (xs (i + 1))) (a2 := (xs (i + 2))) (o_ret := v) hm) hnm (by rw [hLm]; exact List.forall_mem_cons.mpr ⟨show 46 < N by omega, fun _ h9 => absurd h9 List.not_mem_nil⟩) (by rw [hLm]; exact List.forall_mem_cons.mpr ⟨kM, fun _ h9 => absurd h9 List.not_mem_nil⟩) (by rw [hLm]; exact List.forall_mem_cons.mpr ⟨rfl, fun _ h9 => absurd h9 List.not_mem_nil⟩) (by rw [hLm]; rfl) (by rw [hLm]; simp only [List.flatMap_cons, List.flatMap_nil, List.append_nil, List.append_assoc]; rw [bm]) (by rw [hLm]; simp only [List.flatMap_cons, List.flatMap_nil, List.append_nil, List.append_assoc]; rw [hum]) (gdV mw_28_1 mw_28_2 mw_28_3 mw_1_5 mw_28_4) rfl rfl hd_f12_person ⟨Nat.le_of_ble_eq_true rfl, Nat.le_of_ble_eq_true rfl⟩ (ci := 12) (q0 := 0) rfl rfl rfl hl.1 rfl (Nat.le_of_ble_eq_true rfl) dL_law_340 hf9 (fun H locs hP hD hS => ?_)
  obtain ⟨bn, hbn⟩ : ∃ X, X = bsetL bc Lm := ⟨_, rfl⟩
  rw [← hbn] at hP hD
  have tm : bn 46 = um := by rw [hbn]; exact bsetL_at (x := (46, tM (cy 46), bc 46, um)) hnm (by rw [hLm]; exact List.mem_of_getElem? (i := 0) rfl)
  have E2 : ∀ j, j ≠ 46 → bn j = bc j := by
    intro j hj
    rw [hbn]
    exact bsetL_ne (by rw [hLm]; show j ∉ ([46] : List Nat); simp only [List.mem_cons, List.not_mem_nil, or_false]; exact hj)
  have E : ∀ j, (j ≠ 46) → bn j = bs j := fun j hj => (E2 j (by omega)).trans (E1 j)
  refine lv_icmp_eq (tgt := 1115) hx hb dL_law_343 rfl (fun _ => ?_) (fun c8 => absurd rfl c8)
  refine W.widen (k := cells + 8) (n := slots + 13200) (Nat.le_add_right _ _) (Nat.le_add_right _ _) ?_
  have EL : ∀ j, 47 ≤ j → j < N → bn j = bs j := fun j h1 h2 => E j (by omega)
  exact kk N bn H locs ⟨m, c, nx, tn, R, P, (lh 0), rls, bytes, len, fo, x, notes, nh, nr, nm, hour, broken, rung, grip, want, slips, worn, tape, sign, clause, clauses, S, w, im, imF, imX, imM, hN, (E 0 (by omega)).trans b0, hBT.congr (E 1 (by omega)), (E 2 (by omega)).trans b2, hBRR.congr (E 3 (by omega)), hBN.congr (E 4 (by omega)), (E 5 (by omega)).trans b5, hBH.congr (E 6 (by omega)), hBO.congr (E 7 (by omega)), hB8.congr (E 8 (by omega)), hBP.congr (E 9 (by omega)), hBS.congr (E 10 (by omega)), hB11.congr (E 11 (by omega)), hSc.congr (Nat.le_refl _) EL, hPs.congr (fun k hk => E _ (by omega)), hIm.congr (Nat.le_refl _) (Nat.le_refl _) (fun k hk => E _ (by omega)) EL, hRu.congr (fun j hj => E _ (by omega)) hm6, ⟨_, _, _, _, _, _, _, _, _, _, _, _, _, _, _, _, _, _, _, _, _, _, _, _, _, _, _, _, tm.trans hum⟩, hTP, hm6, hof, hox⟩ hP hD hS

set_option maxHeartbeats 8000000 in
set_option maxRecDepth 100000 in
theorem k_rung (C : Cx p m9 c9 s A D adK adV ad cy ims pst b L xs) (hi : i + 6 ≤ L) (T : Top D s ad cy ims pst N bs) (hP : va_P D vwCl (bW N bs) H) (hD : va_D A (bW N bs)) (hS : va_S A s.heap H locs) (hl : lv_has ls 4 (lvL ad b i)) (hf : cells + 8 ≤ 600000 ∧ slots + 13200 ≤ 7302250)
    (kk : ∀ (N : Nat) (bs : Nat → va_W) (H : Heap) (locs : List Loc), Top D s ad cy ims pst N bs → va_P D vwCl (bW N bs) H → va_D A (bW N bs) → va_S A s.heap H locs → W p l e room_1 s m9 #[.ref b] below meth c9 H locs (cells + 8) (slots + 13200) Q (F0 m9 1115 ls [])) : W p l e room_1 s m9 #[.ref b] below meth c9 H locs cells slots Q (F0 m9 348 ls []) := by
  obtain ⟨m, c, nx, tn, R, P, A0, rls, bytes, len, fo, x, notes, nh, nr, nm, hour, broken, rung, grip, want, slips, worn, tape, sign, clause, clauses, S, w, im, imF, imX, imM, hN, b0, hBT, b2, hBRR, hBN, b5, hBH, hBO, hB8, hBP, hBS, hB11, hSc, hPs, hIm, hRu, hBM, hTP, hm6, hof, hox⟩ := T
  obtain ⟨S9, hA, hbA, hbl, hX, hL9, hF, hE9, hV9⟩ := id C
  obtain ⟨hx, hb, hml, hown, hts⟩ := id S9
  obtain ⟨k0, kLL, kTp, kRR, kS4, kW5, kH, kO, kW8, kW11, kM, kIm, kPs⟩ := id hF
  have hf9 : cells ≤ room_1.cells ∧ slots ≤ room_1.slots := ⟨Nat.le_trans (Nat.le_add_right _ _) hf.1, Nat.le_trans (Nat.le_add_right _ _) hf.2⟩
  obtain ⟨lg, rd, nxt, wrg, num, txt, mde, dep, lns, opn, opd, stk, tp, wd, wil, mov, brk, kpt, bhr, far, que, qud, onw, mvp, mvk, isf, sth, drx, b46⟩ := id hBM
  obtain ⟨jl, lh, ly, ru, pe, sb, ro, str, wt, tol, srr, sww, g1, g2, g3, bl, kl, hI, hW, hL, hWT, hBg, hhr, hNo⟩ := id hSc
  subst g3
  obtain ⟨md, b4⟩ := id hBN
  obtain ⟨v, hc, hm⟩ := r_rung hI hW hL (xs (i + 1)) (xs (i + 2))
  refine lv_aload_n hx hb dL_law_348 rfl (lv_at hl 2 rfl) ?_
  refine ld1 C hS hl hi dL_law_349 dL_law_350 dL_law_351 dL_law_352 dL_law_353 ?_
  refine ld2 C hS hl hi dL_law_354 dL_law_355 dL_law_356 dL_law_357 dL_law_358 ?_
  obtain ⟨Lc, hLc⟩ : ∃ X : List (Nat × List (ClassId × FieldType) × va_W × va_W), X = [(0, tLL (cy 0), bs 0, bs 0), (4, tSt (cy 4), bs 4, bs 4), (5, tW (cy 5), bs 5, bs 5), (jl, tLd ly, bs jl, bs jl)] := ⟨_, rfl⟩
  have hnd : (Lc.map Prod.fst).Nodup := by rw [hLc]; show ([0, 4, 5, jl] : List Nat).Nodup; simp only [List.nodup_cons, List.mem_cons, List.not_mem_nil, or_false, not_or, List.nodup_nil, and_true, not_false_eq_true] <;> omega
  have hlt : ∀ x ∈ Lc, x.1 < N := by rw [hLc]; exact List.forall_mem_cons.mpr ⟨show 0 < N by omega, List.forall_mem_cons.mpr ⟨show 4 < N by omega, List.forall_mem_cons.mpr ⟨show 5 < N by omega, List.forall_mem_cons.mpr ⟨show jl < N by omega, fun _ h9 => absurd h9 List.not_mem_nil⟩⟩⟩⟩
  have hkL : ∀ x ∈ Lc, va_K D vwCl x.2.1 s := by rw [hLc]; exact List.forall_mem_cons.mpr ⟨kLL, List.forall_mem_cons.mpr ⟨kS4, List.forall_mem_cons.mpr ⟨kW5, List.forall_mem_cons.mpr ⟨kl, fun _ h9 => absurd h9 List.not_mem_nil⟩⟩⟩⟩
  have hbL : ∀ x ∈ Lc, bs x.1 = x.2.2.1 := by rw [hLc]; exact List.forall_mem_cons.mpr ⟨rfl, List.forall_mem_cons.mpr ⟨rfl, List.forall_mem_cons.mpr ⟨rfl, List.forall_mem_cons.mpr ⟨rfl, fun _ h9 => absurd h9 List.not_mem_nil⟩⟩⟩⟩
  refine mbQ_i (As := [.int (xs (i + 1)), .int (xs (i + 2))]) (rest := []) Lc S9 k0 hP hD hS hA (c11_rung (l := l) (D := D) (ad_this := (ad 0)) (cy_this := (cy 0)) (z_this_tape := (ad 1 0)) (z_this_ladderReader := (ad 2 0)) (z_this_ruleReader := (ad 3 0)) (z_this_rules := rls) (z_this_ruleCount := (nn m)) (z_this_images := ims) (z_this_past := pst) (z_this_pastNext := (nn nx)) (z_this_pastCount := (nn c)) (z_this_hours := (ad 6 0)) (z_this_outlook := (ad 7 0)) (z_this_paths := (ad 9 0)) (z_this_siege := (ad 10 0)) (ad_this_now := (ad 4)) (cy_this_now := (cy 4)) (z_this_now_force := fo) (z_this_now_x := x) (z_this_now_notes := notes) (z_this_now_noteHour := nh) (z_this_now_noteRung := nr) (z_this_now_noteMany := nm) (z_this_now_made := md) (ad_this_now_world := (ad 5)) (cy_this_now_world := (cy 5)) (z_this_now_world_hour := hour) (z_this_now_world_broken := broken) (z_this_now_world_rung := rung) (z_this_now_world_grip := grip) (z_this_now_world_want := want) (z_this_now_world_slips := slips) (z_this_now_world_worn := worn) (ad_this_now_world_ladder := lh) (cy_this_now_world_ladder := ly) (z_this_now_world_ladder_rungs := ru) (z_this_now_world_ladder_people := pe) (z_this_now_world_ladder_startBroken := sb) (z_this_now_world_ladder_room := ro) (z_this_now_world_ladder_strength := str) (z_this_now_world_ladder_weight := wt) (z_this_now_world_ladder_told := tol) (z_this_now_world_ladder_startRung := srr) (z_this_now_world_ladder_startWant := sww) (a1 := (xs (i + 1))) (a2 := (xs (i + 2))) (o_ret := v) hc) hnd hlt hkL hbL (by rw [hLc]; rfl) (by rw [hLc]; simp only [List.flatMap_cons, List.flatMap_nil, List.append_nil, List.append_assoc]; rw [b0, b4, b5, bl]) (by rw [hLc]; simp only [List.flatMap_cons, List.flatMap_nil, List.append_nil, List.append_assoc]; rw [b0, b4, b5, bl]) (gdV mw_29_9 mw_29_10 mw_29_11 mw_1_2 mw_29_12) rfl rfl hd_f11_rung ⟨Nat.le_of_ble_eq_true rfl, Nat.le_of_ble_eq_true rfl⟩ (ci := 11) (q0 := 0) rfl rfl rfl hl.1 rfl (Nat.le_of_ble_eq_true rfl) dL_law_359 hf9 (fun H locs hP hD hS => ?_)
  obtain ⟨bc, hbc⟩ : ∃ X, X = bsetL bs Lc := ⟨_, rfl⟩
  rw [← hbc] at hP hD
  have t0 : bc 0 = bs 0 := by rw [hbc]; exact bsetL_at (x := (0, tLL (cy 0), bs 0, bs 0)) hnd (by rw [hLc]; exact List.mem_of_getElem? (i := 0) rfl)
  have t1 : bc 4 = bs 4 := by rw [hbc]; exact bsetL_at (x := (4, tSt (cy 4), bs 4, bs 4)) hnd (by rw [hLc]; exact List.mem_of_getElem? (i := 1) rfl)
  have t2 : bc 5 = bs 5 := by rw [hbc]; exact bsetL_at (x := (5, tW (cy 5), bs 5, bs 5)) hnd (by rw [hLc]; exact List.mem_of_getElem? (i := 2) rfl)
  have t3 : bc jl = bs jl := by rw [hbc]; exact bsetL_at (x := (jl, tLd ly, bs jl, bs jl)) hnd (by rw [hLc]; exact List.mem_of_getElem? (i := 3) rfl)
  have E1 : ∀ j, bc j = bs j := by
    intro j
    by_cases q0 : j = 0
    · rw [q0]; exact t0
    by_cases q1 : j = 4
    · rw [q1]; exact t1
    by_cases q2 : j = 5
    · rw [q2]; exact t2
    by_cases q3 : j = jl
    · rw [q3]; exact t3
    rw [hbc]
    exact bsetL_ne (by rw [hLc]; show j ∉ ([0, 4, 5, jl] : List Nat); simp only [List.mem_cons, List.not_mem_nil, or_false, not_or]; omega)
  refine lv_aload_n hx hb dL_law_362 rfl (lv_at hl 1 rfl) ?_
  refine ld1 C hS hl hi dL_law_363 dL_law_364 dL_law_365 dL_law_366 dL_law_367 ?_
  refine ld2 C hS hl hi dL_law_368 dL_law_369 dL_law_370 dL_law_371 dL_law_372 ?_
  obtain ⟨um, hum⟩ : ∃ X : va_W, X = (cM (ad 46) (cy 46) tape len (nn m) sign lg clause clauses rd nxt wrg num txt mde dep lns opn opd stk tp wd S fo x wil mov brk w (nn c) kpt bhr far que qud onw mvp mvk isf sth drx im imF imX imM) := ⟨_, rfl⟩
  have bm : bc 46 = _ := (E1 46).trans b46
  obtain ⟨Lm, hLm⟩ : ∃ X : List (Nat × List (ClassId × FieldType) × va_W × va_W), X = [(46, tM (cy 46), bc 46, um)] := ⟨_, rfl⟩
  have hnm : (Lm.map Prod.fst).Nodup := by rw [hLm]; show ([46] : List Nat).Nodup; decide
  refine mbQ_i (As := [.int (xs (i + 1)), .int (xs (i + 2))]) (rest := [.int v]) Lm S9 k0 hP hD hS hA (c12_rung (l := l) (D := D) (ad := (ad 46)) (cy := (cy 46)) (z_tape := tape) (z_taped := len) (z_rules := (nn m)) (z_sign := sign) (z_length := lg) (z_clause := clause) (z_clauses := clauses) (z_read := rd) (z_next := nxt) (z_wrong := wrg) (z_number := num) (z_text := txt) (z_made := mde) (z_deep := dep) (z_lines := lns) (z_open := opn) (z_opened := opd) (z_stack := stk) (z_top := tp) (z_word := wd) (z_said := S) (z_force := fo) (z_x := x) (z_will := wil) (z_moved := mov) (z_broke := brk) (z_wasSaid := w) (z_undone := (nn c)) (z_kept := kpt) (z_breakHour := bhr) (z_far := far) (z_queue := que) (z_queued := qud) (z_isOnWay := onw) (z_movePerson := mvp) (z_moveKind := mvk) (z_isFit := isf) (z_standThen := sth) (z_drawX := drx) (z_images := im) (z_imageForce := imF) (z_imageX := imX) (z_isMade := imM) (a1 := (xs (i + 1))) (a2 := (xs (i + 2))) (o_ret := v) hm) hnm (by rw [hLm]; exact List.forall_mem_cons.mpr ⟨show 46 < N by omega, fun _ h9 => absurd h9 List.not_mem_nil⟩) (by rw [hLm]; exact List.forall_mem_cons.mpr ⟨kM, fun _ h9 => absurd h9 List.not_mem_nil⟩) (by rw [hLm]; exact List.forall_mem_cons.mpr ⟨rfl, fun _ h9 => absurd h9 List.not_mem_nil⟩) (by rw [hLm]; rfl) (by rw [hLm]; simp only [List.flatMap_cons, List.flatMap_nil, List.append_nil, List.append_assoc]; rw [bm]) (by rw [hLm]; simp only [List.flatMap_cons, List.flatMap_nil, List.append_nil, List.append_assoc]; rw [hum]) (gdV mw_30_11 mw_30_12 mw_30_13 mw_1_5 mw_30_14) rfl rfl hd_f12_rung ⟨Nat.le_of_ble_eq_true rfl, Nat.le_of_ble_eq_true rfl⟩ (ci := 12) (q0 := 0) rfl rfl rfl hl.1 rfl (Nat.le_of_ble_eq_true rfl) dL_law_373 hf9 (fun H locs hP hD hS => ?_)
  obtain ⟨bn, hbn⟩ : ∃ X, X = bsetL bc Lm := ⟨_, rfl⟩
  rw [← hbn] at hP hD
  have tm : bn 46 = um := by rw [hbn]; exact bsetL_at (x := (46, tM (cy 46), bc 46, um)) hnm (by rw [hLm]; exact List.mem_of_getElem? (i := 0) rfl)
  have E2 : ∀ j, j ≠ 46 → bn j = bc j := by
    intro j hj
    rw [hbn]
    exact bsetL_ne (by rw [hLm]; show j ∉ ([46] : List Nat); simp only [List.mem_cons, List.not_mem_nil, or_false]; exact hj)
  have E : ∀ j, (j ≠ 46) → bn j = bs j := fun j hj => (E2 j (by omega)).trans (E1 j)
  refine lv_icmp_eq (tgt := 1115) hx hb dL_law_376 rfl (fun _ => ?_) (fun c8 => absurd rfl c8)
  refine W.widen (k := cells + 8) (n := slots + 13200) (Nat.le_add_right _ _) (Nat.le_add_right _ _) ?_
  have EL : ∀ j, 47 ≤ j → j < N → bn j = bs j := fun j h1 h2 => E j (by omega)
  exact kk N bn H locs ⟨m, c, nx, tn, R, P, (lh 0), rls, bytes, len, fo, x, notes, nh, nr, nm, hour, broken, rung, grip, want, slips, worn, tape, sign, clause, clauses, S, w, im, imF, imX, imM, hN, (E 0 (by omega)).trans b0, hBT.congr (E 1 (by omega)), (E 2 (by omega)).trans b2, hBRR.congr (E 3 (by omega)), hBN.congr (E 4 (by omega)), (E 5 (by omega)).trans b5, hBH.congr (E 6 (by omega)), hBO.congr (E 7 (by omega)), hB8.congr (E 8 (by omega)), hBP.congr (E 9 (by omega)), hBS.congr (E 10 (by omega)), hB11.congr (E 11 (by omega)), hSc.congr (Nat.le_refl _) EL, hPs.congr (fun k hk => E _ (by omega)), hIm.congr (Nat.le_refl _) (Nat.le_refl _) (fun k hk => E _ (by omega)) EL, hRu.congr (fun j hj => E _ (by omega)) hm6, ⟨_, _, _, _, _, _, _, _, _, _, _, _, _, _, _, _, _, _, _, _, _, _, _, _, _, _, _, _, tm.trans hum⟩, hTP, hm6, hof, hox⟩ hP hD hS

set_option maxHeartbeats 8000000 in
set_option maxRecDepth 100000 in
theorem k_capital (C : Cx p m9 c9 s A D adK adV ad cy ims pst b L xs) (hi : i + 6 ≤ L) (T : Top D s ad cy ims pst N bs) (hP : va_P D vwCl (bW N bs) H) (hD : va_D A (bW N bs)) (hS : va_S A s.heap H locs) (hl : lv_has ls 4 (lvL ad b i)) (hf : cells + 8 ≤ 600000 ∧ slots + 13200 ≤ 7302250)
    (kk : ∀ (N : Nat) (bs : Nat → va_W) (H : Heap) (locs : List Loc), Top D s ad cy ims pst N bs → va_P D vwCl (bW N bs) H → va_D A (bW N bs) → va_S A s.heap H locs → W p l e room_1 s m9 #[.ref b] below meth c9 H locs (cells + 8) (slots + 13200) Q (F0 m9 1115 ls [])) : W p l e room_1 s m9 #[.ref b] below meth c9 H locs cells slots Q (F0 m9 746 ls []) := by
  obtain ⟨m, c, nx, tn, R, P, A0, rls, bytes, len, fo, x, notes, nh, nr, nm, hour, broken, rung, grip, want, slips, worn, tape, sign, clause, clauses, S, w, im, imF, imX, imM, hN, b0, hBT, b2, hBRR, hBN, b5, hBH, hBO, hB8, hBP, hBS, hB11, hSc, hPs, hIm, hRu, hBM, hTP, hm6, hof, hox⟩ := T
  obtain ⟨S9, hA, hbA, hbl, hX, hL9, hF, hE9, hV9⟩ := id C
  obtain ⟨hx, hb, hml, hown, hts⟩ := id S9
  obtain ⟨k0, kLL, kTp, kRR, kS4, kW5, kH, kO, kW8, kW11, kM, kIm, kPs⟩ := id hF
  have hf9 : cells ≤ room_1.cells ∧ slots ≤ room_1.slots := ⟨Nat.le_trans (Nat.le_add_right _ _) hf.1, Nat.le_trans (Nat.le_add_right _ _) hf.2⟩
  obtain ⟨lg, rd, nxt, wrg, num, txt, mde, dep, lns, opn, opd, stk, tp, wd, wil, mov, brk, kpt, bhr, far, que, qud, onw, mvp, mvk, isf, sth, drx, b46⟩ := id hBM
  obtain ⟨jl, lh, ly, ru, pe, sb, ro, str, wt, tol, srr, sww, g1, g2, g3, bl, kl, hI, hW, hL, hWT, hBg, hhr, hNo⟩ := id hSc
  subst g3
  obtain ⟨md, b4⟩ := id hBN
  obtain ⟨v, hc, hm⟩ := r_capital hI hW hL 
  refine lv_aload_n hx hb dL_law_746 rfl (lv_at hl 2 rfl) ?_
  obtain ⟨Lc, hLc⟩ : ∃ X : List (Nat × List (ClassId × FieldType) × va_W × va_W), X = [(0, tLL (cy 0), bs 0, bs 0), (4, tSt (cy 4), bs 4, bs 4), (5, tW (cy 5), bs 5, bs 5), (jl, tLd ly, bs jl, bs jl)] := ⟨_, rfl⟩
  have hnd : (Lc.map Prod.fst).Nodup := by rw [hLc]; show ([0, 4, 5, jl] : List Nat).Nodup; simp only [List.nodup_cons, List.mem_cons, List.not_mem_nil, or_false, not_or, List.nodup_nil, and_true, not_false_eq_true] <;> omega
  have hlt : ∀ x ∈ Lc, x.1 < N := by rw [hLc]; exact List.forall_mem_cons.mpr ⟨show 0 < N by omega, List.forall_mem_cons.mpr ⟨show 4 < N by omega, List.forall_mem_cons.mpr ⟨show 5 < N by omega, List.forall_mem_cons.mpr ⟨show jl < N by omega, fun _ h9 => absurd h9 List.not_mem_nil⟩⟩⟩⟩
  have hkL : ∀ x ∈ Lc, va_K D vwCl x.2.1 s := by rw [hLc]; exact List.forall_mem_cons.mpr ⟨kLL, List.forall_mem_cons.mpr ⟨kS4, List.forall_mem_cons.mpr ⟨kW5, List.forall_mem_cons.mpr ⟨kl, fun _ h9 => absurd h9 List.not_mem_nil⟩⟩⟩⟩
  have hbL : ∀ x ∈ Lc, bs x.1 = x.2.2.1 := by rw [hLc]; exact List.forall_mem_cons.mpr ⟨rfl, List.forall_mem_cons.mpr ⟨rfl, List.forall_mem_cons.mpr ⟨rfl, List.forall_mem_cons.mpr ⟨rfl, fun _ h9 => absurd h9 List.not_mem_nil⟩⟩⟩⟩
  refine mbQ_i (As := []) (rest := []) Lc S9 k0 hP hD hS hA (c11_capital (l := l) (D := D) (ad_this := (ad 0)) (cy_this := (cy 0)) (z_this_tape := (ad 1 0)) (z_this_ladderReader := (ad 2 0)) (z_this_ruleReader := (ad 3 0)) (z_this_rules := rls) (z_this_ruleCount := (nn m)) (z_this_images := ims) (z_this_past := pst) (z_this_pastNext := (nn nx)) (z_this_pastCount := (nn c)) (z_this_hours := (ad 6 0)) (z_this_outlook := (ad 7 0)) (z_this_paths := (ad 9 0)) (z_this_siege := (ad 10 0)) (ad_this_now := (ad 4)) (cy_this_now := (cy 4)) (z_this_now_force := fo) (z_this_now_x := x) (z_this_now_notes := notes) (z_this_now_noteHour := nh) (z_this_now_noteRung := nr) (z_this_now_noteMany := nm) (z_this_now_made := md) (ad_this_now_world := (ad 5)) (cy_this_now_world := (cy 5)) (z_this_now_world_hour := hour) (z_this_now_world_broken := broken) (z_this_now_world_rung := rung) (z_this_now_world_grip := grip) (z_this_now_world_want := want) (z_this_now_world_slips := slips) (z_this_now_world_worn := worn) (ad_this_now_world_ladder := lh) (cy_this_now_world_ladder := ly) (z_this_now_world_ladder_rungs := ru) (z_this_now_world_ladder_people := pe) (z_this_now_world_ladder_startBroken := sb) (z_this_now_world_ladder_room := ro) (z_this_now_world_ladder_strength := str) (z_this_now_world_ladder_weight := wt) (z_this_now_world_ladder_told := tol) (z_this_now_world_ladder_startRung := srr) (z_this_now_world_ladder_startWant := sww) (o_ret := v) hc) hnd hlt hkL hbL (by rw [hLc]; rfl) (by rw [hLc]; simp only [List.flatMap_cons, List.flatMap_nil, List.append_nil, List.append_assoc]; rw [b0, b4, b5, bl]) (by rw [hLc]; simp only [List.flatMap_cons, List.flatMap_nil, List.append_nil, List.append_assoc]; rw [b0, b4, b5, bl]) (gdV mw_52_15 mw_52_16 mw_52_17 mw_1_2 mw_52_18) rfl rfl hd_f11_capital ⟨Nat.le_of_ble_eq_true rfl, Nat.le_of_ble_eq_true rfl⟩ (ci := 11) (q0 := 0) rfl rfl rfl hl.1 rfl (Nat.le_of_ble_eq_true rfl) dL_law_747 hf9 (fun H locs hP hD hS => ?_)
  obtain ⟨bc, hbc⟩ : ∃ X, X = bsetL bs Lc := ⟨_, rfl⟩
  rw [← hbc] at hP hD
  have t0 : bc 0 = bs 0 := by rw [hbc]; exact bsetL_at (x := (0, tLL (cy 0), bs 0, bs 0)) hnd (by rw [hLc]; exact List.mem_of_getElem? (i := 0) rfl)
  have t1 : bc 4 = bs 4 := by rw [hbc]; exact bsetL_at (x := (4, tSt (cy 4), bs 4, bs 4)) hnd (by rw [hLc]; exact List.mem_of_getElem? (i := 1) rfl)
  have t2 : bc 5 = bs 5 := by rw [hbc]; exact bsetL_at (x := (5, tW (cy 5), bs 5, bs 5)) hnd (by rw [hLc]; exact List.mem_of_getElem? (i := 2) rfl)
  have t3 : bc jl = bs jl := by rw [hbc]; exact bsetL_at (x := (jl, tLd ly, bs jl, bs jl)) hnd (by rw [hLc]; exact List.mem_of_getElem? (i := 3) rfl)
  have E1 : ∀ j, bc j = bs j := by
    intro j
    by_cases q0 : j = 0
    · rw [q0]; exact t0
    by_cases q1 : j = 4
    · rw [q1]; exact t1
    by_cases q2 : j = 5
    · rw [q2]; exact t2
    by_cases q3 : j = jl
    · rw [q3]; exact t3
    rw [hbc]
    exact bsetL_ne (by rw [hLc]; show j ∉ ([0, 4, 5, jl] : List Nat); simp only [List.mem_cons, List.not_mem_nil, or_false, not_or]; omega)
  refine lv_aload_n hx hb dL_law_750 rfl (lv_at hl 1 rfl) ?_
  obtain ⟨um, hum⟩ : ∃ X : va_W, X = (cM (ad 46) (cy 46) tape len (nn m) sign lg clause clauses rd nxt wrg num txt mde dep lns opn opd stk tp wd S fo x wil mov brk w (nn c) kpt bhr far que qud onw mvp mvk isf sth drx im imF imX imM) := ⟨_, rfl⟩
  have bm : bc 46 = _ := (E1 46).trans b46
  obtain ⟨Lm, hLm⟩ : ∃ X : List (Nat × List (ClassId × FieldType) × va_W × va_W), X = [(46, tM (cy 46), bc 46, um)] := ⟨_, rfl⟩
  have hnm : (Lm.map Prod.fst).Nodup := by rw [hLm]; show ([46] : List Nat).Nodup; decide
  refine mbQ_i (As := []) (rest := [.int v]) Lm S9 k0 hP hD hS hA (c12_capital (l := l) (D := D) (ad := (ad 46)) (cy := (cy 46)) (z_tape := tape) (z_taped := len) (z_rules := (nn m)) (z_sign := sign) (z_length := lg) (z_clause := clause) (z_clauses := clauses) (z_read := rd) (z_next := nxt) (z_wrong := wrg) (z_number := num) (z_text := txt) (z_made := mde) (z_deep := dep) (z_lines := lns) (z_open := opn) (z_opened := opd) (z_stack := stk) (z_top := tp) (z_word := wd) (z_said := S) (z_force := fo) (z_x := x) (z_will := wil) (z_moved := mov) (z_broke := brk) (z_wasSaid := w) (z_undone := (nn c)) (z_kept := kpt) (z_breakHour := bhr) (z_far := far) (z_queue := que) (z_queued := qud) (z_isOnWay := onw) (z_movePerson := mvp) (z_moveKind := mvk) (z_isFit := isf) (z_standThen := sth) (z_drawX := drx) (z_images := im) (z_imageForce := imF) (z_imageX := imX) (z_isMade := imM) (o_ret := v) hm) hnm (by rw [hLm]; exact List.forall_mem_cons.mpr ⟨show 46 < N by omega, fun _ h9 => absurd h9 List.not_mem_nil⟩) (by rw [hLm]; exact List.forall_mem_cons.mpr ⟨kM, fun _ h9 => absurd h9 List.not_mem_nil⟩) (by rw [hLm]; exact List.forall_mem_cons.mpr ⟨rfl, fun _ h9 => absurd h9 List.not_mem_nil⟩) (by rw [hLm]; rfl) (by rw [hLm]; simp only [List.flatMap_cons, List.flatMap_nil, List.append_nil, List.append_assoc]; rw [bm]) (by rw [hLm]; simp only [List.flatMap_cons, List.flatMap_nil, List.append_nil, List.append_assoc]; rw [hum]) (gdV mw_52_23 mw_53_0 mw_53_1 mw_1_5 mw_53_2) rfl rfl hd_f12_capital ⟨Nat.le_of_ble_eq_true rfl, Nat.le_of_ble_eq_true rfl⟩ (ci := 12) (q0 := 0) rfl rfl rfl hl.1 rfl (Nat.le_of_ble_eq_true rfl) dL_law_751 hf9 (fun H locs hP hD hS => ?_)
  obtain ⟨bn, hbn⟩ : ∃ X, X = bsetL bc Lm := ⟨_, rfl⟩
  rw [← hbn] at hP hD
  have tm : bn 46 = um := by rw [hbn]; exact bsetL_at (x := (46, tM (cy 46), bc 46, um)) hnm (by rw [hLm]; exact List.mem_of_getElem? (i := 0) rfl)
  have E2 : ∀ j, j ≠ 46 → bn j = bc j := by
    intro j hj
    rw [hbn]
    exact bsetL_ne (by rw [hLm]; show j ∉ ([46] : List Nat); simp only [List.mem_cons, List.not_mem_nil, or_false]; exact hj)
  have E : ∀ j, (j ≠ 46) → bn j = bs j := fun j hj => (E2 j (by omega)).trans (E1 j)
  refine lv_icmp_eq (tgt := 1115) hx hb dL_law_754 rfl (fun _ => ?_) (fun c8 => absurd rfl c8)
  refine W.widen (k := cells + 8) (n := slots + 13200) (Nat.le_add_right _ _) (Nat.le_add_right _ _) ?_
  have EL : ∀ j, 47 ≤ j → j < N → bn j = bs j := fun j h1 h2 => E j (by omega)
  exact kk N bn H locs ⟨m, c, nx, tn, R, P, (lh 0), rls, bytes, len, fo, x, notes, nh, nr, nm, hour, broken, rung, grip, want, slips, worn, tape, sign, clause, clauses, S, w, im, imF, imX, imM, hN, (E 0 (by omega)).trans b0, hBT.congr (E 1 (by omega)), (E 2 (by omega)).trans b2, hBRR.congr (E 3 (by omega)), hBN.congr (E 4 (by omega)), (E 5 (by omega)).trans b5, hBH.congr (E 6 (by omega)), hBO.congr (E 7 (by omega)), hB8.congr (E 8 (by omega)), hBP.congr (E 9 (by omega)), hBS.congr (E 10 (by omega)), hB11.congr (E 11 (by omega)), hSc.congr (Nat.le_refl _) EL, hPs.congr (fun k hk => E _ (by omega)), hIm.congr (Nat.le_refl _) (Nat.le_refl _) (fun k hk => E _ (by omega)) EL, hRu.congr (fun j hj => E _ (by omega)) hm6, ⟨_, _, _, _, _, _, _, _, _, _, _, _, _, _, _, _, _, _, _, _, _, _, _, _, _, _, _, _, tm.trans hum⟩, hTP, hm6, hof, hox⟩ hP hD hS

set_option maxHeartbeats 8000000 in
set_option maxRecDepth 100000 in
theorem k_stand (C : Cx p m9 c9 s A D adK adV ad cy ims pst b L xs) (hi : i + 6 ≤ L) (T : Top D s ad cy ims pst N bs) (hP : va_P D vwCl (bW N bs) H) (hD : va_D A (bW N bs)) (hS : va_S A s.heap H locs) (hl : lv_has ls 4 (lvL ad b i)) (hf : cells + 8 ≤ 600000 ∧ slots + 13200 ≤ 7302250)
    (kk : ∀ (N : Nat) (bs : Nat → va_W) (H : Heap) (locs : List Loc), Top D s ad cy ims pst N bs → va_P D vwCl (bW N bs) H → va_D A (bW N bs) → va_S A s.heap H locs → W p l e room_1 s m9 #[.ref b] below meth c9 H locs (cells + 8) (slots + 13200) Q (F0 m9 1115 ls [])) : W p l e room_1 s m9 #[.ref b] below meth c9 H locs cells slots Q (F0 m9 838 ls []) := by
  obtain ⟨m, c, nx, tn, R, P, A0, rls, bytes, len, fo, x, notes, nh, nr, nm, hour, broken, rung, grip, want, slips, worn, tape, sign, clause, clauses, S, w, im, imF, imX, imM, hN, b0, hBT, b2, hBRR, hBN, b5, hBH, hBO, hB8, hBP, hBS, hB11, hSc, hPs, hIm, hRu, hBM, hTP, hm6, hof, hox⟩ := T
  obtain ⟨S9, hA, hbA, hbl, hX, hL9, hF, hE9, hV9⟩ := id C
  obtain ⟨hx, hb, hml, hown, hts⟩ := id S9
  obtain ⟨k0, kLL, kTp, kRR, kS4, kW5, kH, kO, kW8, kW11, kM, kIm, kPs⟩ := id hF
  have hf9 : cells ≤ room_1.cells ∧ slots ≤ room_1.slots := ⟨Nat.le_trans (Nat.le_add_right _ _) hf.1, Nat.le_trans (Nat.le_add_right _ _) hf.2⟩
  obtain ⟨lg, rd, nxt, wrg, num, txt, mde, dep, lns, opn, opd, stk, tp, wd, wil, mov, brk, kpt, bhr, far, que, qud, onw, mvp, mvk, isf, sth, drx, b46⟩ := id hBM
  obtain ⟨jl, lh, ly, ru, pe, sb, ro, str, wt, tol, srr, sww, g1, g2, g3, bl, kl, hI, hW, hL, hWT, hBg, hhr, hNo⟩ := id hSc
  subst g3
  obtain ⟨md, b4⟩ := id hBN
  obtain ⟨v, hc, hm⟩ := r_stand hI hW hL hWT (xs (i + 1)) (xs (i + 2))
  refine lv_aload_n hx hb dL_law_838 rfl (lv_at hl 2 rfl) ?_
  refine ld1 C hS hl hi dL_law_839 dL_law_840 dL_law_841 dL_law_842 dL_law_843 ?_
  refine ld2 C hS hl hi dL_law_844 dL_law_845 dL_law_846 dL_law_847 dL_law_848 ?_
  obtain ⟨Lc, hLc⟩ : ∃ X : List (Nat × List (ClassId × FieldType) × va_W × va_W), X = [(0, tLL (cy 0), bs 0, bs 0), (4, tSt (cy 4), bs 4, bs 4), (5, tW (cy 5), bs 5, bs 5), (jl, tLd ly, bs jl, bs jl)] := ⟨_, rfl⟩
  have hnd : (Lc.map Prod.fst).Nodup := by rw [hLc]; show ([0, 4, 5, jl] : List Nat).Nodup; simp only [List.nodup_cons, List.mem_cons, List.not_mem_nil, or_false, not_or, List.nodup_nil, and_true, not_false_eq_true] <;> omega
  have hlt : ∀ x ∈ Lc, x.1 < N := by rw [hLc]; exact List.forall_mem_cons.mpr ⟨show 0 < N by omega, List.forall_mem_cons.mpr ⟨show 4 < N by omega, List.forall_mem_cons.mpr ⟨show 5 < N by omega, List.forall_mem_cons.mpr ⟨show jl < N by omega, fun _ h9 => absurd h9 List.not_mem_nil⟩⟩⟩⟩
  have hkL : ∀ x ∈ Lc, va_K D vwCl x.2.1 s := by rw [hLc]; exact List.forall_mem_cons.mpr ⟨kLL, List.forall_mem_cons.mpr ⟨kS4, List.forall_mem_cons.mpr ⟨kW5, List.forall_mem_cons.mpr ⟨kl, fun _ h9 => absurd h9 List.not_mem_nil⟩⟩⟩⟩
  have hbL : ∀ x ∈ Lc, bs x.1 = x.2.2.1 := by rw [hLc]; exact List.forall_mem_cons.mpr ⟨rfl, List.forall_mem_cons.mpr ⟨rfl, List.forall_mem_cons.mpr ⟨rfl, List.forall_mem_cons.mpr ⟨rfl, fun _ h9 => absurd h9 List.not_mem_nil⟩⟩⟩⟩
  refine mbQ_i (As := [.int (xs (i + 1)), .int (xs (i + 2))]) (rest := []) Lc S9 k0 hP hD hS hA (c11_stand (l := l) (D := D) (ad_this := (ad 0)) (cy_this := (cy 0)) (z_this_tape := (ad 1 0)) (z_this_ladderReader := (ad 2 0)) (z_this_ruleReader := (ad 3 0)) (z_this_rules := rls) (z_this_ruleCount := (nn m)) (z_this_images := ims) (z_this_past := pst) (z_this_pastNext := (nn nx)) (z_this_pastCount := (nn c)) (z_this_hours := (ad 6 0)) (z_this_outlook := (ad 7 0)) (z_this_paths := (ad 9 0)) (z_this_siege := (ad 10 0)) (ad_this_now := (ad 4)) (cy_this_now := (cy 4)) (z_this_now_force := fo) (z_this_now_x := x) (z_this_now_notes := notes) (z_this_now_noteHour := nh) (z_this_now_noteRung := nr) (z_this_now_noteMany := nm) (z_this_now_made := md) (ad_this_now_world := (ad 5)) (cy_this_now_world := (cy 5)) (z_this_now_world_hour := hour) (z_this_now_world_broken := broken) (z_this_now_world_rung := rung) (z_this_now_world_grip := grip) (z_this_now_world_want := want) (z_this_now_world_slips := slips) (z_this_now_world_worn := worn) (ad_this_now_world_ladder := lh) (cy_this_now_world_ladder := ly) (z_this_now_world_ladder_rungs := ru) (z_this_now_world_ladder_people := pe) (z_this_now_world_ladder_startBroken := sb) (z_this_now_world_ladder_room := ro) (z_this_now_world_ladder_strength := str) (z_this_now_world_ladder_weight := wt) (z_this_now_world_ladder_told := tol) (z_this_now_world_ladder_startRung := srr) (z_this_now_world_ladder_startWant := sww) (a1 := (xs (i + 1))) (a2 := (xs (i + 2))) (o_ret := v) hc) hnd hlt hkL hbL (by rw [hLc]; rfl) (by rw [hLc]; simp only [List.flatMap_cons, List.flatMap_nil, List.append_nil, List.append_assoc]; rw [b0, b4, b5, bl]) (by rw [hLc]; simp only [List.flatMap_cons, List.flatMap_nil, List.append_nil, List.append_assoc]; rw [b0, b4, b5, bl]) (gdV mw_56_6 mw_56_7 mw_56_8 mw_1_2 mw_56_9) rfl rfl hd_f11_stand ⟨Nat.le_of_ble_eq_true rfl, Nat.le_of_ble_eq_true rfl⟩ (ci := 11) (q0 := 0) rfl rfl rfl hl.1 rfl (Nat.le_of_ble_eq_true rfl) dL_law_849 hf9 (fun H locs hP hD hS => ?_)
  obtain ⟨bc, hbc⟩ : ∃ X, X = bsetL bs Lc := ⟨_, rfl⟩
  rw [← hbc] at hP hD
  have t0 : bc 0 = bs 0 := by rw [hbc]; exact bsetL_at (x := (0, tLL (cy 0), bs 0, bs 0)) hnd (by rw [hLc]; exact List.mem_of_getElem? (i := 0) rfl)
  have t1 : bc 4 = bs 4 := by rw [hbc]; exact bsetL_at (x := (4, tSt (cy 4), bs 4, bs 4)) hnd (by rw [hLc]; exact List.mem_of_getElem? (i := 1) rfl)
  have t2 : bc 5 = bs 5 := by rw [hbc]; exact bsetL_at (x := (5, tW (cy 5), bs 5, bs 5)) hnd (by rw [hLc]; exact List.mem_of_getElem? (i := 2) rfl)
  have t3 : bc jl = bs jl := by rw [hbc]; exact bsetL_at (x := (jl, tLd ly, bs jl, bs jl)) hnd (by rw [hLc]; exact List.mem_of_getElem? (i := 3) rfl)
  have E1 : ∀ j, bc j = bs j := by
    intro j
    by_cases q0 : j = 0
    · rw [q0]; exact t0
    by_cases q1 : j = 4
    · rw [q1]; exact t1
    by_cases q2 : j = 5
    · rw [q2]; exact t2
    by_cases q3 : j = jl
    · rw [q3]; exact t3
    rw [hbc]
    exact bsetL_ne (by rw [hLc]; show j ∉ ([0, 4, 5, jl] : List Nat); simp only [List.mem_cons, List.not_mem_nil, or_false, not_or]; omega)
  refine lv_aload_n hx hb dL_law_852 rfl (lv_at hl 1 rfl) ?_
  refine ld1 C hS hl hi dL_law_853 dL_law_854 dL_law_855 dL_law_856 dL_law_857 ?_
  refine ld2 C hS hl hi dL_law_858 dL_law_859 dL_law_860 dL_law_861 dL_law_862 ?_
  obtain ⟨um, hum⟩ : ∃ X : va_W, X = (cM (ad 46) (cy 46) tape len (nn m) sign lg clause clauses rd nxt wrg num txt mde dep lns opn opd stk tp wd S fo x wil mov brk w (nn c) kpt bhr far que qud onw mvp mvk isf sth drx im imF imX imM) := ⟨_, rfl⟩
  have bm : bc 46 = _ := (E1 46).trans b46
  obtain ⟨Lm, hLm⟩ : ∃ X : List (Nat × List (ClassId × FieldType) × va_W × va_W), X = [(46, tM (cy 46), bc 46, um)] := ⟨_, rfl⟩
  have hnm : (Lm.map Prod.fst).Nodup := by rw [hLm]; show ([46] : List Nat).Nodup; decide
  refine mbQ_i (As := [.int (xs (i + 1)), .int (xs (i + 2))]) (rest := [.int v]) Lm S9 k0 hP hD hS hA (c12_stand (l := l) (D := D) (ad := (ad 46)) (cy := (cy 46)) (z_tape := tape) (z_taped := len) (z_rules := (nn m)) (z_sign := sign) (z_length := lg) (z_clause := clause) (z_clauses := clauses) (z_read := rd) (z_next := nxt) (z_wrong := wrg) (z_number := num) (z_text := txt) (z_made := mde) (z_deep := dep) (z_lines := lns) (z_open := opn) (z_opened := opd) (z_stack := stk) (z_top := tp) (z_word := wd) (z_said := S) (z_force := fo) (z_x := x) (z_will := wil) (z_moved := mov) (z_broke := brk) (z_wasSaid := w) (z_undone := (nn c)) (z_kept := kpt) (z_breakHour := bhr) (z_far := far) (z_queue := que) (z_queued := qud) (z_isOnWay := onw) (z_movePerson := mvp) (z_moveKind := mvk) (z_isFit := isf) (z_standThen := sth) (z_drawX := drx) (z_images := im) (z_imageForce := imF) (z_imageX := imX) (z_isMade := imM) (a1 := (xs (i + 1))) (a2 := (xs (i + 2))) (o_ret := v) hm) hnm (by rw [hLm]; exact List.forall_mem_cons.mpr ⟨show 46 < N by omega, fun _ h9 => absurd h9 List.not_mem_nil⟩) (by rw [hLm]; exact List.forall_mem_cons.mpr ⟨kM, fun _ h9 => absurd h9 List.not_mem_nil⟩) (by rw [hLm]; exact List.forall_mem_cons.mpr ⟨rfl, fun _ h9 => absurd h9 List.not_mem_nil⟩) (by rw [hLm]; rfl) (by rw [hLm]; simp only [List.flatMap_cons, List.flatMap_nil, List.append_nil, List.append_assoc]; rw [bm]) (by rw [hLm]; simp only [List.flatMap_cons, List.flatMap_nil, List.append_nil, List.append_assoc]; rw [hum]) (gdV mw_56_15 mw_56_16 mw_56_17 mw_1_5 mw_56_18) rfl rfl hd_f12_stand ⟨Nat.le_of_ble_eq_true rfl, Nat.le_of_ble_eq_true rfl⟩ (ci := 12) (q0 := 0) rfl rfl rfl hl.1 rfl (Nat.le_of_ble_eq_true rfl) dL_law_863 hf9 (fun H locs hP hD hS => ?_)
  obtain ⟨bn, hbn⟩ : ∃ X, X = bsetL bc Lm := ⟨_, rfl⟩
  rw [← hbn] at hP hD
  have tm : bn 46 = um := by rw [hbn]; exact bsetL_at (x := (46, tM (cy 46), bc 46, um)) hnm (by rw [hLm]; exact List.mem_of_getElem? (i := 0) rfl)
  have E2 : ∀ j, j ≠ 46 → bn j = bc j := by
    intro j hj
    rw [hbn]
    exact bsetL_ne (by rw [hLm]; show j ∉ ([46] : List Nat); simp only [List.mem_cons, List.not_mem_nil, or_false]; exact hj)
  have E : ∀ j, (j ≠ 46) → bn j = bs j := fun j hj => (E2 j (by omega)).trans (E1 j)
  refine lv_icmp_eq (tgt := 1115) hx hb dL_law_866 rfl (fun _ => ?_) (fun c8 => absurd rfl c8)
  refine W.widen (k := cells + 8) (n := slots + 13200) (Nat.le_add_right _ _) (Nat.le_add_right _ _) ?_
  have EL : ∀ j, 47 ≤ j → j < N → bn j = bs j := fun j h1 h2 => E j (by omega)
  exact kk N bn H locs ⟨m, c, nx, tn, R, P, (lh 0), rls, bytes, len, fo, x, notes, nh, nr, nm, hour, broken, rung, grip, want, slips, worn, tape, sign, clause, clauses, S, w, im, imF, imX, imM, hN, (E 0 (by omega)).trans b0, hBT.congr (E 1 (by omega)), (E 2 (by omega)).trans b2, hBRR.congr (E 3 (by omega)), hBN.congr (E 4 (by omega)), (E 5 (by omega)).trans b5, hBH.congr (E 6 (by omega)), hBO.congr (E 7 (by omega)), hB8.congr (E 8 (by omega)), hBP.congr (E 9 (by omega)), hBS.congr (E 10 (by omega)), hB11.congr (E 11 (by omega)), hSc.congr (Nat.le_refl _) EL, hPs.congr (fun k hk => E _ (by omega)), hIm.congr (Nat.le_refl _) (Nat.le_refl _) (fun k hk => E _ (by omega)) EL, hRu.congr (fun j hj => E _ (by omega)) hm6, ⟨_, _, _, _, _, _, _, _, _, _, _, _, _, _, _, _, _, _, _, _, _, _, _, _, _, _, _, _, tm.trans hum⟩, hTP, hm6, hof, hox⟩ hP hD hS

set_option maxHeartbeats 8000000 in
set_option maxRecDepth 100000 in
theorem k_count (C : Cx p m9 c9 s A D adK adV ad cy ims pst b L xs) (hi : i + 6 ≤ L) (T : Top D s ad cy ims pst N bs) (hP : va_P D vwCl (bW N bs) H) (hD : va_D A (bW N bs)) (hS : va_S A s.heap H locs) (hl : lv_has ls 4 (lvL ad b i)) (hf : cells + 8 ≤ 600000 ∧ slots + 13200 ≤ 7302250)
    (kk : ∀ (N : Nat) (bs : Nat → va_W) (H : Heap) (locs : List Loc), Top D s ad cy ims pst N bs → va_P D vwCl (bW N bs) H → va_D A (bW N bs) → va_S A s.heap H locs → W p l e room_1 s m9 #[.ref b] below meth c9 H locs (cells + 8) (slots + 13200) Q (F0 m9 1115 ls [])) : W p l e room_1 s m9 #[.ref b] below meth c9 H locs cells slots Q (F0 m9 1046 ls []) := by
  obtain ⟨m, c, nx, tn, R, P, A0, rls, bytes, len, fo, x, notes, nh, nr, nm, hour, broken, rung, grip, want, slips, worn, tape, sign, clause, clauses, S, w, im, imF, imX, imM, hN, b0, hBT, b2, hBRR, hBN, b5, hBH, hBO, hB8, hBP, hBS, hB11, hSc, hPs, hIm, hRu, hBM, hTP, hm6, hof, hox⟩ := T
  obtain ⟨S9, hA, hbA, hbl, hX, hL9, hF, hE9, hV9⟩ := id C
  obtain ⟨hx, hb, hml, hown, hts⟩ := id S9
  obtain ⟨k0, kLL, kTp, kRR, kS4, kW5, kH, kO, kW8, kW11, kM, kIm, kPs⟩ := id hF
  have hf9 : cells ≤ room_1.cells ∧ slots ≤ room_1.slots := ⟨Nat.le_trans (Nat.le_add_right _ _) hf.1, Nat.le_trans (Nat.le_add_right _ _) hf.2⟩
  obtain ⟨lg, rd, nxt, wrg, num, txt, mde, dep, lns, opn, opd, stk, tp, wd, wil, mov, brk, kpt, bhr, far, que, qud, onw, mvp, mvk, isf, sth, drx, b46⟩ := id hBM
  obtain ⟨jl, lh, ly, ru, pe, sb, ro, str, wt, tol, srr, sww, g1, g2, g3, bl, kl, hI, hW, hL, hWT, hBg, hhr, hNo⟩ := id hSc
  subst g3
  obtain ⟨md, b4⟩ := id hBN
  obtain ⟨kd, sg, ft, sa, sp, b1⟩ := id hBT
  obtain ⟨v, hc, hm⟩ := r_count (rc := nn m) (pc := nn c) (fo := fo) (x := x) (tl := len) hI hW hL.1 hL.2.1 hNo.n109 (xs (i + 1))
  refine lv_aload_n hx hb dL_law_1046 rfl (lv_at hl 2 rfl) ?_
  refine ld1 C hS hl hi dL_law_1047 dL_law_1048 dL_law_1049 dL_law_1050 dL_law_1051 ?_
  obtain ⟨Lc, hLc⟩ : ∃ X : List (Nat × List (ClassId × FieldType) × va_W × va_W), X = [(0, tLL (cy 0), bs 0, bs 0), (4, tSt (cy 4), bs 4, bs 4), (5, tW (cy 5), bs 5, bs 5), (jl, tLd ly, bs jl, bs jl), (1, tTp (cy 1), bs 1, bs 1)] := ⟨_, rfl⟩
  have hnd : (Lc.map Prod.fst).Nodup := by rw [hLc]; show ([0, 4, 5, jl, 1] : List Nat).Nodup; simp only [List.nodup_cons, List.mem_cons, List.not_mem_nil, or_false, not_or, List.nodup_nil, and_true, not_false_eq_true] <;> omega
  have hlt : ∀ x ∈ Lc, x.1 < N := by rw [hLc]; exact List.forall_mem_cons.mpr ⟨show 0 < N by omega, List.forall_mem_cons.mpr ⟨show 4 < N by omega, List.forall_mem_cons.mpr ⟨show 5 < N by omega, List.forall_mem_cons.mpr ⟨show jl < N by omega, List.forall_mem_cons.mpr ⟨show 1 < N by omega, fun _ h9 => absurd h9 List.not_mem_nil⟩⟩⟩⟩⟩
  have hkL : ∀ x ∈ Lc, va_K D vwCl x.2.1 s := by rw [hLc]; exact List.forall_mem_cons.mpr ⟨kLL, List.forall_mem_cons.mpr ⟨kS4, List.forall_mem_cons.mpr ⟨kW5, List.forall_mem_cons.mpr ⟨kl, List.forall_mem_cons.mpr ⟨kTp, fun _ h9 => absurd h9 List.not_mem_nil⟩⟩⟩⟩⟩
  have hbL : ∀ x ∈ Lc, bs x.1 = x.2.2.1 := by rw [hLc]; exact List.forall_mem_cons.mpr ⟨rfl, List.forall_mem_cons.mpr ⟨rfl, List.forall_mem_cons.mpr ⟨rfl, List.forall_mem_cons.mpr ⟨rfl, List.forall_mem_cons.mpr ⟨rfl, fun _ h9 => absurd h9 List.not_mem_nil⟩⟩⟩⟩⟩
  refine mbQ_i (As := [.int (xs (i + 1))]) (rest := []) Lc S9 k0 hP hD hS hA (c11_count (l := l) (D := D) (ad_this := (ad 0)) (cy_this := (cy 0)) (z_this_ladderReader := (ad 2 0)) (z_this_ruleReader := (ad 3 0)) (z_this_rules := rls) (z_this_ruleCount := (nn m)) (z_this_images := ims) (z_this_past := pst) (z_this_pastNext := (nn nx)) (z_this_pastCount := (nn c)) (z_this_hours := (ad 6 0)) (z_this_outlook := (ad 7 0)) (z_this_paths := (ad 9 0)) (z_this_siege := (ad 10 0)) (ad_this_now := (ad 4)) (cy_this_now := (cy 4)) (z_this_now_force := fo) (z_this_now_x := x) (z_this_now_notes := notes) (z_this_now_noteHour := nh) (z_this_now_noteRung := nr) (z_this_now_noteMany := nm) (z_this_now_made := md) (ad_this_now_world := (ad 5)) (cy_this_now_world := (cy 5)) (z_this_now_world_hour := hour) (z_this_now_world_broken := broken) (z_this_now_world_rung := rung) (z_this_now_world_grip := grip) (z_this_now_world_want := want) (z_this_now_world_slips := slips) (z_this_now_world_worn := worn) (ad_this_now_world_ladder := lh) (cy_this_now_world_ladder := ly) (z_this_now_world_ladder_rungs := ru) (z_this_now_world_ladder_people := pe) (z_this_now_world_ladder_startBroken := sb) (z_this_now_world_ladder_room := ro) (z_this_now_world_ladder_strength := str) (z_this_now_world_ladder_weight := wt) (z_this_now_world_ladder_told := tol) (z_this_now_world_ladder_startRung := srr) (z_this_now_world_ladder_startWant := sww) (ad_this_tape := (ad 1)) (cy_this_tape := (cy 1)) (z_this_tape_bytes := bytes) (z_this_tape_length := len) (z_this_tape_kind := kd) (z_this_tape_sign := sg) (z_this_tape_fault := ft) (z_this_tape_start := sa) (z_this_tape_stop := sp) (a1 := (xs (i + 1))) (o_ret := v) hc) hnd hlt hkL hbL (by rw [hLc]; rfl) (by rw [hLc]; simp only [List.flatMap_cons, List.flatMap_nil, List.append_nil, List.append_assoc]; rw [b0, b4, b5, bl, b1]) (by rw [hLc]; simp only [List.flatMap_cons, List.flatMap_nil, List.append_nil, List.append_assoc]; rw [b0, b4, b5, bl, b1]) (gdV mw_63_4 mw_63_5 mw_63_6 mw_1_2 mw_63_7) rfl rfl hd_f11_count ⟨Nat.le_of_ble_eq_true rfl, Nat.le_of_ble_eq_true rfl⟩ (ci := 11) (q0 := 0) rfl rfl rfl hl.1 rfl (Nat.le_of_ble_eq_true rfl) dL_law_1052 hf9 (fun H locs hP hD hS => ?_)
  obtain ⟨bc, hbc⟩ : ∃ X, X = bsetL bs Lc := ⟨_, rfl⟩
  rw [← hbc] at hP hD
  have t0 : bc 0 = bs 0 := by rw [hbc]; exact bsetL_at (x := (0, tLL (cy 0), bs 0, bs 0)) hnd (by rw [hLc]; exact List.mem_of_getElem? (i := 0) rfl)
  have t1 : bc 4 = bs 4 := by rw [hbc]; exact bsetL_at (x := (4, tSt (cy 4), bs 4, bs 4)) hnd (by rw [hLc]; exact List.mem_of_getElem? (i := 1) rfl)
  have t2 : bc 5 = bs 5 := by rw [hbc]; exact bsetL_at (x := (5, tW (cy 5), bs 5, bs 5)) hnd (by rw [hLc]; exact List.mem_of_getElem? (i := 2) rfl)
  have t3 : bc jl = bs jl := by rw [hbc]; exact bsetL_at (x := (jl, tLd ly, bs jl, bs jl)) hnd (by rw [hLc]; exact List.mem_of_getElem? (i := 3) rfl)
  have t4 : bc 1 = bs 1 := by rw [hbc]; exact bsetL_at (x := (1, tTp (cy 1), bs 1, bs 1)) hnd (by rw [hLc]; exact List.mem_of_getElem? (i := 4) rfl)
  have E1 : ∀ j, bc j = bs j := by
    intro j
    by_cases q0 : j = 0
    · rw [q0]; exact t0
    by_cases q1 : j = 4
    · rw [q1]; exact t1
    by_cases q2 : j = 5
    · rw [q2]; exact t2
    by_cases q3 : j = jl
    · rw [q3]; exact t3
    by_cases q4 : j = 1
    · rw [q4]; exact t4
    rw [hbc]
    exact bsetL_ne (by rw [hLc]; show j ∉ ([0, 4, 5, jl, 1] : List Nat); simp only [List.mem_cons, List.not_mem_nil, or_false, not_or]; omega)
  refine lv_aload_n hx hb dL_law_1055 rfl (lv_at hl 1 rfl) ?_
  refine ld1 C hS hl hi dL_law_1056 dL_law_1057 dL_law_1058 dL_law_1059 dL_law_1060 ?_
  obtain ⟨um, hum⟩ : ∃ X : va_W, X = (cM (ad 46) (cy 46) tape len (nn m) sign lg clause clauses rd nxt wrg num txt mde dep lns opn opd stk tp wd S fo x wil mov brk w (nn c) kpt bhr far que qud onw mvp mvk isf sth drx im imF imX imM) := ⟨_, rfl⟩
  have bm : bc 46 = _ := (E1 46).trans b46
  obtain ⟨Lm, hLm⟩ : ∃ X : List (Nat × List (ClassId × FieldType) × va_W × va_W), X = [(46, tM (cy 46), bc 46, um)] := ⟨_, rfl⟩
  have hnm : (Lm.map Prod.fst).Nodup := by rw [hLm]; show ([46] : List Nat).Nodup; decide
  refine mbQ_i (As := [.int (xs (i + 1))]) (rest := [.int v]) Lm S9 k0 hP hD hS hA (c12_count (l := l) (D := D) (ad := (ad 46)) (cy := (cy 46)) (z_tape := tape) (z_taped := len) (z_rules := (nn m)) (z_sign := sign) (z_length := lg) (z_clause := clause) (z_clauses := clauses) (z_read := rd) (z_next := nxt) (z_wrong := wrg) (z_number := num) (z_text := txt) (z_made := mde) (z_deep := dep) (z_lines := lns) (z_open := opn) (z_opened := opd) (z_stack := stk) (z_top := tp) (z_word := wd) (z_said := S) (z_force := fo) (z_x := x) (z_will := wil) (z_moved := mov) (z_broke := brk) (z_wasSaid := w) (z_undone := (nn c)) (z_kept := kpt) (z_breakHour := bhr) (z_far := far) (z_queue := que) (z_queued := qud) (z_isOnWay := onw) (z_movePerson := mvp) (z_moveKind := mvk) (z_isFit := isf) (z_standThen := sth) (z_drawX := drx) (z_images := im) (z_imageForce := imF) (z_imageX := imX) (z_isMade := imM) (a1 := (xs (i + 1))) (o_ret := v) hm) hnm (by rw [hLm]; exact List.forall_mem_cons.mpr ⟨show 46 < N by omega, fun _ h9 => absurd h9 List.not_mem_nil⟩) (by rw [hLm]; exact List.forall_mem_cons.mpr ⟨kM, fun _ h9 => absurd h9 List.not_mem_nil⟩) (by rw [hLm]; exact List.forall_mem_cons.mpr ⟨rfl, fun _ h9 => absurd h9 List.not_mem_nil⟩) (by rw [hLm]; rfl) (by rw [hLm]; simp only [List.flatMap_cons, List.flatMap_nil, List.append_nil, List.append_assoc]; rw [bm]) (by rw [hLm]; simp only [List.flatMap_cons, List.flatMap_nil, List.append_nil, List.append_assoc]; rw [hum]) (gdV mw_63_18 mw_63_19 mw_63_20 mw_1_5 mw_63_21) rfl rfl hd_f12_count ⟨Nat.le_of_ble_eq_true rfl, Nat.le_of_ble_eq_true rfl⟩ (ci := 12) (q0 := 0) rfl rfl rfl hl.1 rfl (Nat.le_of_ble_eq_true rfl) dL_law_1061 hf9 (fun H locs hP hD hS => ?_)
  obtain ⟨bn, hbn⟩ : ∃ X, X = bsetL bc Lm := ⟨_, rfl⟩
  rw [← hbn] at hP hD
  have tm : bn 46 = um := by rw [hbn]; exact bsetL_at (x := (46, tM (cy 46), bc 46, um)) hnm (by rw [hLm]; exact List.mem_of_getElem? (i := 0) rfl)
  have E2 : ∀ j, j ≠ 46 → bn j = bc j := by
    intro j hj
    rw [hbn]
    exact bsetL_ne (by rw [hLm]; show j ∉ ([46] : List Nat); simp only [List.mem_cons, List.not_mem_nil, or_false]; exact hj)
  have E : ∀ j, (j ≠ 46) → bn j = bs j := fun j hj => (E2 j (by omega)).trans (E1 j)
  refine lv_icmp_eq (tgt := 1115) hx hb dL_law_1064 rfl (fun _ => ?_) (fun c8 => absurd rfl c8)
  refine W.widen (k := cells + 8) (n := slots + 13200) (Nat.le_add_right _ _) (Nat.le_add_right _ _) ?_
  have EL : ∀ j, 47 ≤ j → j < N → bn j = bs j := fun j h1 h2 => E j (by omega)
  exact kk N bn H locs ⟨m, c, nx, tn, R, P, (lh 0), rls, bytes, len, fo, x, notes, nh, nr, nm, hour, broken, rung, grip, want, slips, worn, tape, sign, clause, clauses, S, w, im, imF, imX, imM, hN, (E 0 (by omega)).trans b0, hBT.congr (E 1 (by omega)), (E 2 (by omega)).trans b2, hBRR.congr (E 3 (by omega)), hBN.congr (E 4 (by omega)), (E 5 (by omega)).trans b5, hBH.congr (E 6 (by omega)), hBO.congr (E 7 (by omega)), hB8.congr (E 8 (by omega)), hBP.congr (E 9 (by omega)), hBS.congr (E 10 (by omega)), hB11.congr (E 11 (by omega)), hSc.congr (Nat.le_refl _) EL, hPs.congr (fun k hk => E _ (by omega)), hIm.congr (Nat.le_refl _) (Nat.le_refl _) (fun k hk => E _ (by omega)) EL, hRu.congr (fun j hj => E _ (by omega)) hm6, ⟨_, _, _, _, _, _, _, _, _, _, _, _, _, _, _, _, _, _, _, _, _, _, _, _, _, _, _, _, tm.trans hum⟩, hTP, hm6, hof, hox⟩ hP hD hS

set_option maxHeartbeats 8000000 in
set_option maxRecDepth 100000 in
theorem k_note (C : Cx p m9 c9 s A D adK adV ad cy ims pst b L xs) (hi : i + 6 ≤ L) (T : Top D s ad cy ims pst N bs) (hP : va_P D vwCl (bW N bs) H) (hD : va_D A (bW N bs)) (hS : va_S A s.heap H locs) (hl : lv_has ls 4 (lvL ad b i)) (hf : cells + 8 ≤ 600000 ∧ slots + 13200 ≤ 7302250)
    (kk : ∀ (N : Nat) (bs : Nat → va_W) (H : Heap) (locs : List Loc), Top D s ad cy ims pst N bs → va_P D vwCl (bW N bs) H → va_D A (bW N bs) → va_S A s.heap H locs → W p l e room_1 s m9 #[.ref b] below meth c9 H locs (cells + 8) (slots + 13200) Q (F0 m9 1115 ls [])) : W p l e room_1 s m9 #[.ref b] below meth c9 H locs cells slots Q (F0 m9 871 ls []) := by
  obtain ⟨m, c, nx, tn, R, P, A0, rls, bytes, len, fo, x, notes, nh, nr, nm, hour, broken, rung, grip, want, slips, worn, tape, sign, clause, clauses, S, w, im, imF, imX, imM, hN, b0, hBT, b2, hBRR, hBN, b5, hBH, hBO, hB8, hBP, hBS, hB11, hSc, hPs, hIm, hRu, hBM, hTP, hm6, hof, hox⟩ := T
  obtain ⟨S9, hA, hbA, hbl, hX, hL9, hF, hE9, hV9⟩ := id C
  obtain ⟨hx, hb, hml, hown, hts⟩ := id S9
  obtain ⟨k0, kLL, kTp, kRR, kS4, kW5, kH, kO, kW8, kW11, kM, kIm, kPs⟩ := id hF
  have hf9 : cells ≤ room_1.cells ∧ slots ≤ room_1.slots := ⟨Nat.le_trans (Nat.le_add_right _ _) hf.1, Nat.le_trans (Nat.le_add_right _ _) hf.2⟩
  obtain ⟨lg, rd, nxt, wrg, num, txt, mde, dep, lns, opn, opd, stk, tp, wd, wil, mov, brk, kpt, bhr, far, que, qud, onw, mvp, mvk, isf, sth, drx, b46⟩ := id hBM
  obtain ⟨jl, lh, ly, ru, pe, sb, ro, str, wt, tol, srr, sww, g1, g2, g3, bl, kl, hI, hW, hL, hWT, hBg, hhr, hNo⟩ := id hSc
  subst g3
  obtain ⟨md, b4⟩ := id hBN
  obtain ⟨v, no1, nh1, nr1, nm1, S1, hc, hm, hN1, hlo⟩ := r_note hI hL.1 hNo (xs (i + 1)) (xs (i + 2)) (xs (i + 3))
  refine lv_aload_n hx hb dL_law_871 rfl (lv_at hl 2 rfl) ?_
  refine ld1 C hS hl hi dL_law_872 dL_law_873 dL_law_874 dL_law_875 dL_law_876 ?_
  refine ld2 C hS hl hi dL_law_877 dL_law_878 dL_law_879 dL_law_880 dL_law_881 ?_
  refine ld3 C hS hl hi dL_law_882 dL_law_883 dL_law_884 dL_law_885 dL_law_886 ?_
  obtain ⟨u4, hu4⟩ : ∃ X : va_W, X = cSt (ad 4) (cy 4) ((ad 5) 0) fo x no1 nh1 nr1 nm1 md := ⟨_, rfl⟩
  obtain ⟨Lc, hLc⟩ : ∃ X : List (Nat × List (ClassId × FieldType) × va_W × va_W), X = [(0, tLL (cy 0), bs 0, bs 0), (4, tSt (cy 4), bs 4, u4), (5, tW (cy 5), bs 5, bs 5), (jl, tLd ly, bs jl, bs jl)] := ⟨_, rfl⟩
  have hnd : (Lc.map Prod.fst).Nodup := by rw [hLc]; show ([0, 4, 5, jl] : List Nat).Nodup; simp only [List.nodup_cons, List.mem_cons, List.not_mem_nil, or_false, not_or, List.nodup_nil, and_true, not_false_eq_true] <;> omega
  have hlt : ∀ x ∈ Lc, x.1 < N := by rw [hLc]; exact List.forall_mem_cons.mpr ⟨show 0 < N by omega, List.forall_mem_cons.mpr ⟨show 4 < N by omega, List.forall_mem_cons.mpr ⟨show 5 < N by omega, List.forall_mem_cons.mpr ⟨show jl < N by omega, fun _ h9 => absurd h9 List.not_mem_nil⟩⟩⟩⟩
  have hkL : ∀ x ∈ Lc, va_K D vwCl x.2.1 s := by rw [hLc]; exact List.forall_mem_cons.mpr ⟨kLL, List.forall_mem_cons.mpr ⟨kS4, List.forall_mem_cons.mpr ⟨kW5, List.forall_mem_cons.mpr ⟨kl, fun _ h9 => absurd h9 List.not_mem_nil⟩⟩⟩⟩
  have hbL : ∀ x ∈ Lc, bs x.1 = x.2.2.1 := by rw [hLc]; exact List.forall_mem_cons.mpr ⟨rfl, List.forall_mem_cons.mpr ⟨rfl, List.forall_mem_cons.mpr ⟨rfl, List.forall_mem_cons.mpr ⟨rfl, fun _ h9 => absurd h9 List.not_mem_nil⟩⟩⟩⟩
  refine mbQ_i (As := [.int (xs (i + 1)), .int (xs (i + 2)), .int (xs (i + 3))]) (rest := []) Lc S9 k0 hP hD hS hA (c11_note (l := l) (D := D) (ad_this := (ad 0)) (cy_this := (cy 0)) (z_this_tape := (ad 1 0)) (z_this_ladderReader := (ad 2 0)) (z_this_ruleReader := (ad 3 0)) (z_this_rules := rls) (z_this_ruleCount := (nn m)) (z_this_images := ims) (z_this_past := pst) (z_this_pastNext := (nn nx)) (z_this_pastCount := (nn c)) (z_this_hours := (ad 6 0)) (z_this_outlook := (ad 7 0)) (z_this_paths := (ad 9 0)) (z_this_siege := (ad 10 0)) (ad_this_now := (ad 4)) (cy_this_now := (cy 4)) (z_this_now_force := fo) (z_this_now_x := x) (z_this_now_notes := notes) (z_this_now_noteHour := nh) (z_this_now_noteRung := nr) (z_this_now_noteMany := nm) (z_this_now_made := md) (ad_this_now_world := (ad 5)) (cy_this_now_world := (cy 5)) (z_this_now_world_hour := hour) (z_this_now_world_broken := broken) (z_this_now_world_rung := rung) (z_this_now_world_grip := grip) (z_this_now_world_want := want) (z_this_now_world_slips := slips) (z_this_now_world_worn := worn) (ad_this_now_world_ladder := lh) (cy_this_now_world_ladder := ly) (z_this_now_world_ladder_rungs := ru) (z_this_now_world_ladder_people := pe) (z_this_now_world_ladder_startBroken := sb) (z_this_now_world_ladder_room := ro) (z_this_now_world_ladder_strength := str) (z_this_now_world_ladder_weight := wt) (z_this_now_world_ladder_told := tol) (z_this_now_world_ladder_startRung := srr) (z_this_now_world_ladder_startWant := sww) (a1 := (xs (i + 1))) (a2 := (xs (i + 2))) (a3 := (xs (i + 3))) (o_ret := v) (o_this_now_notes := no1) (o_this_now_noteHour := nh1) (o_this_now_noteRung := nr1) (o_this_now_noteMany := nm1) hc) hnd hlt hkL hbL (by rw [hLc]; rfl) (by rw [hLc]; simp only [List.flatMap_cons, List.flatMap_nil, List.append_nil, List.append_assoc]; rw [b0, b4, b5, bl]) (by rw [hLc]; simp only [List.flatMap_cons, List.flatMap_nil, List.append_nil, List.append_assoc]; rw [b0, hu4, b5, bl]) (gdV mw_56_20 mw_56_21 mw_56_22 mw_1_2 mw_56_23) rfl rfl hd_f11_note ⟨Nat.le_of_ble_eq_true rfl, Nat.le_of_ble_eq_true rfl⟩ (ci := 11) (q0 := 0) rfl rfl rfl hl.1 rfl (Nat.le_of_ble_eq_true rfl) dL_law_887 hf9 (fun H locs hP hD hS => ?_)
  obtain ⟨bc, hbc⟩ : ∃ X, X = bsetL bs Lc := ⟨_, rfl⟩
  rw [← hbc] at hP hD
  have t0 : bc 0 = bs 0 := by rw [hbc]; exact bsetL_at (x := (0, tLL (cy 0), bs 0, bs 0)) hnd (by rw [hLc]; exact List.mem_of_getElem? (i := 0) rfl)
  have t1 : bc 4 = u4 := by rw [hbc]; exact bsetL_at (x := (4, tSt (cy 4), bs 4, u4)) hnd (by rw [hLc]; exact List.mem_of_getElem? (i := 1) rfl)
  have t2 : bc 5 = bs 5 := by rw [hbc]; exact bsetL_at (x := (5, tW (cy 5), bs 5, bs 5)) hnd (by rw [hLc]; exact List.mem_of_getElem? (i := 2) rfl)
  have t3 : bc jl = bs jl := by rw [hbc]; exact bsetL_at (x := (jl, tLd ly, bs jl, bs jl)) hnd (by rw [hLc]; exact List.mem_of_getElem? (i := 3) rfl)
  have E1 : ∀ j, (j ≠ 4) → bc j = bs j := by
    intro j hj
    by_cases q0 : j = 0
    · rw [q0]; exact t0
    by_cases q2 : j = 5
    · rw [q2]; exact t2
    by_cases q3 : j = jl
    · rw [q3]; exact t3
    rw [hbc]
    exact bsetL_ne (by rw [hLc]; show j ∉ ([0, 4, 5, jl] : List Nat); simp only [List.mem_cons, List.not_mem_nil, or_false, not_or]; omega)
  refine lv_aload_n hx hb dL_law_890 rfl (lv_at hl 1 rfl) ?_
  refine ld1 C hS hl hi dL_law_891 dL_law_892 dL_law_893 dL_law_894 dL_law_895 ?_
  refine ld2 C hS hl hi dL_law_896 dL_law_897 dL_law_898 dL_law_899 dL_law_900 ?_
  refine ld3 C hS hl hi dL_law_901 dL_law_902 dL_law_903 dL_law_904 dL_law_905 ?_
  obtain ⟨um, hum⟩ : ∃ X : va_W, X = (cM (ad 46) (cy 46) tape len (nn m) sign lg clause clauses rd nxt wrg num txt mde dep lns opn opd stk tp wd S1 fo x wil mov brk w (nn c) kpt bhr far que qud onw mvp mvk isf sth drx im imF imX imM) := ⟨_, rfl⟩
  have bm : bc 46 = _ := (E1 46 (by omega)).trans b46
  obtain ⟨Lm, hLm⟩ : ∃ X : List (Nat × List (ClassId × FieldType) × va_W × va_W), X = [(46, tM (cy 46), bc 46, um)] := ⟨_, rfl⟩
  have hnm : (Lm.map Prod.fst).Nodup := by rw [hLm]; show ([46] : List Nat).Nodup; decide
  refine mbQ_i (As := [.int (xs (i + 1)), .int (xs (i + 2)), .int (xs (i + 3))]) (rest := [.int v]) Lm S9 k0 hP hD hS hA (c12_note (l := l) (D := D) (ad := (ad 46)) (cy := (cy 46)) (z_tape := tape) (z_taped := len) (z_rules := (nn m)) (z_sign := sign) (z_length := lg) (z_clause := clause) (z_clauses := clauses) (z_read := rd) (z_next := nxt) (z_wrong := wrg) (z_number := num) (z_text := txt) (z_made := mde) (z_deep := dep) (z_lines := lns) (z_open := opn) (z_opened := opd) (z_stack := stk) (z_top := tp) (z_word := wd) (z_said := S) (z_force := fo) (z_x := x) (z_will := wil) (z_moved := mov) (z_broke := brk) (z_wasSaid := w) (z_undone := (nn c)) (z_kept := kpt) (z_breakHour := bhr) (z_far := far) (z_queue := que) (z_queued := qud) (z_isOnWay := onw) (z_movePerson := mvp) (z_moveKind := mvk) (z_isFit := isf) (z_standThen := sth) (z_drawX := drx) (z_images := im) (z_imageForce := imF) (z_imageX := imX) (z_isMade := imM) (a1 := (xs (i + 1))) (a2 := (xs (i + 2))) (a3 := (xs (i + 3))) (o_ret := v) (o_said := S1) hm) hnm (by rw [hLm]; exact List.forall_mem_cons.mpr ⟨show 46 < N by omega, fun _ h9 => absurd h9 List.not_mem_nil⟩) (by rw [hLm]; exact List.forall_mem_cons.mpr ⟨kM, fun _ h9 => absurd h9 List.not_mem_nil⟩) (by rw [hLm]; exact List.forall_mem_cons.mpr ⟨rfl, fun _ h9 => absurd h9 List.not_mem_nil⟩) (by rw [hLm]; rfl) (by rw [hLm]; simp only [List.flatMap_cons, List.flatMap_nil, List.append_nil, List.append_assoc]; rw [bm]) (by rw [hLm]; simp only [List.flatMap_cons, List.flatMap_nil, List.append_nil, List.append_assoc]; rw [hum]) (gdV mw_57_5 mw_57_6 mw_57_7 mw_1_5 mw_57_8) rfl rfl hd_f12_note ⟨Nat.le_of_ble_eq_true rfl, Nat.le_of_ble_eq_true rfl⟩ (ci := 12) (q0 := 0) rfl rfl rfl hl.1 rfl (Nat.le_of_ble_eq_true rfl) dL_law_906 hf9 (fun H locs hP hD hS => ?_)
  obtain ⟨bn, hbn⟩ : ∃ X, X = bsetL bc Lm := ⟨_, rfl⟩
  rw [← hbn] at hP hD
  have tm : bn 46 = um := by rw [hbn]; exact bsetL_at (x := (46, tM (cy 46), bc 46, um)) hnm (by rw [hLm]; exact List.mem_of_getElem? (i := 0) rfl)
  have E2 : ∀ j, j ≠ 46 → bn j = bc j := by
    intro j hj
    rw [hbn]
    exact bsetL_ne (by rw [hLm]; show j ∉ ([46] : List Nat); simp only [List.mem_cons, List.not_mem_nil, or_false]; exact hj)
  have E : ∀ j, (j ≠ 46 ∧ j ≠ 4) → bn j = bs j := fun j hj => (E2 j (by omega)).trans (E1 j (by omega))
  have s1 : bn 4 = u4 := (E2 _ (by omega)).trans t1
  refine lv_icmp_eq (tgt := 1115) hx hb dL_law_909 rfl (fun _ => ?_) (fun c8 => absurd rfl c8)
  refine W.widen (k := cells + 8) (n := slots + 13200) (Nat.le_add_right _ _) (Nat.le_add_right _ _) ?_
  have EL : ∀ j, 47 ≤ j → j < N → bn j = bs j := fun j h1 h2 => E j (by omega)
  exact kk N bn H locs ⟨m, c, nx, tn, R, P, (lh 0), rls, bytes, len, fo, x, no1, nh1, nr1, nm1, hour, broken, rung, grip, want, slips, worn, tape, sign, clause, clauses, S1, w, im, imF, imX, imM, hN, (E 0 (by omega)).trans b0, hBT.congr (E 1 (by omega)), (E 2 (by omega)).trans b2, hBRR.congr (E 3 (by omega)), ⟨_, (s1.trans hu4)⟩, (E 5 (by omega)).trans b5, hBH.congr (E 6 (by omega)), hBO.congr (E 7 (by omega)), hB8.congr (E 8 (by omega)), hBP.congr (E 9 (by omega)), hBS.congr (E 10 (by omega)), hB11.congr (E 11 (by omega)), (hSc.note hlo hN1).congr (Nat.le_refl _) EL, (hPs.lo hlo).congr (fun k hk => E _ (by omega)), hIm.congr (Nat.le_refl _) (Nat.le_refl _) (fun k hk => E _ (by omega)) EL, hRu.congr (fun j hj => E _ (by omega)) hm6, ⟨_, _, _, _, _, _, _, _, _, _, _, _, _, _, _, _, _, _, _, _, _, _, _, _, _, _, _, _, tm.trans hum⟩, hTP, hm6, hof, hox⟩ hP hD hS

set_option maxHeartbeats 8000000 in
set_option maxRecDepth 100000 in
theorem k_ballot (C : Cx p m9 c9 s A D adK adV ad cy ims pst b L xs) (hi : i + 6 ≤ L) (T : Top D s ad cy ims pst N bs) (hP : va_P D vwCl (bW N bs) H) (hD : va_D A (bW N bs)) (hS : va_S A s.heap H locs) (hl : lv_has ls 4 (lvL ad b i)) (hf : cells + 8 ≤ 600000 ∧ slots + 13200 ≤ 7302250)
    (kk : ∀ (N : Nat) (bs : Nat → va_W) (H : Heap) (locs : List Loc), Top D s ad cy ims pst N bs → va_P D vwCl (bW N bs) H → va_D A (bW N bs) → va_S A s.heap H locs → W p l e room_1 s m9 #[.ref b] below meth c9 H locs (cells + 8) (slots + 13200) Q (F0 m9 1115 ls [])) : W p l e room_1 s m9 #[.ref b] below meth c9 H locs cells slots Q (F0 m9 759 ls []) := by
  obtain ⟨m, c, nx, tn, R, P, A0, rls, bytes, len, fo, x, notes, nh, nr, nm, hour, broken, rung, grip, want, slips, worn, tape, sign, clause, clauses, S, w, im, imF, imX, imM, hN, b0, hBT, b2, hBRR, hBN, b5, hBH, hBO, hB8, hBP, hBS, hB11, hSc, hPs, hIm, hRu, hBM, hTP, hm6, hof, hox⟩ := T
  obtain ⟨S9, hA, hbA, hbl, hX, hL9, hF, hE9, hV9⟩ := id C
  obtain ⟨hx, hb, hml, hown, hts⟩ := id S9
  obtain ⟨k0, kLL, kTp, kRR, kS4, kW5, kH, kO, kW8, kW11, kM, kIm, kPs⟩ := id hF
  have hf9 : cells ≤ room_1.cells ∧ slots ≤ room_1.slots := ⟨Nat.le_trans (Nat.le_add_right _ _) hf.1, Nat.le_trans (Nat.le_add_right _ _) hf.2⟩
  obtain ⟨lg, rd, nxt, wrg, num, txt, mde, dep, lns, opn, opd, stk, tp, wd, wil, mov, brk, kpt, bhr, far, que, qud, onw, mvp, mvk, isf, sth, drx, b46⟩ := id hBM
  obtain ⟨jl, lh, ly, ru, pe, sb, ro, str, wt, tol, srr, sww, g1, g2, g3, bl, kl, hI, hW, hL, hWT, hBg, hhr, hNo⟩ := id hSc
  subst g3
  obtain ⟨md, b4⟩ := id hBN
  obtain ⟨sf, b10⟩ := id hBS
  obtain ⟨uq, uh, ub, ur, ug, uw, us, uk, b11⟩ := id hB11
  obtain ⟨v, v1, v2, v3, v4, v5, v6, v7, v8, hc, hm⟩ := r_ballot (th := uh) (tb := ub) (tr := ur) (tg := ug) (tw := uw) (ts := us) (tk := uk) (qn := lh 0) (qt := uq) hI hW hL
  refine lv_aload_n hx hb dL_law_759 rfl (lv_at hl 2 rfl) ?_
  obtain ⟨u11, hu11⟩ : ∃ X : va_W, X = cW (ad 11) (cy 11) v8 v1 v2 v3 v4 v5 v6 v7 := ⟨_, rfl⟩
  obtain ⟨Lc, hLc⟩ : ∃ X : List (Nat × List (ClassId × FieldType) × va_W × va_W), X = [(0, tLL (cy 0), bs 0, bs 0), (4, tSt (cy 4), bs 4, bs 4), (5, tW (cy 5), bs 5, bs 5), (jl, tLd ly, bs jl, bs jl), (10, [], bs 10, bs 10), (11, tW (cy 11), bs 11, u11)] := ⟨_, rfl⟩
  have hnd : (Lc.map Prod.fst).Nodup := by rw [hLc]; show ([0, 4, 5, jl, 10, 11] : List Nat).Nodup; simp only [List.nodup_cons, List.mem_cons, List.not_mem_nil, or_false, not_or, List.nodup_nil, and_true, not_false_eq_true] <;> omega
  have hlt : ∀ x ∈ Lc, x.1 < N := by rw [hLc]; exact List.forall_mem_cons.mpr ⟨show 0 < N by omega, List.forall_mem_cons.mpr ⟨show 4 < N by omega, List.forall_mem_cons.mpr ⟨show 5 < N by omega, List.forall_mem_cons.mpr ⟨show jl < N by omega, List.forall_mem_cons.mpr ⟨show 10 < N by omega, List.forall_mem_cons.mpr ⟨show 11 < N by omega, fun _ h9 => absurd h9 List.not_mem_nil⟩⟩⟩⟩⟩⟩
  have hkL : ∀ x ∈ Lc, va_K D vwCl x.2.1 s := by rw [hLc]; exact List.forall_mem_cons.mpr ⟨kLL, List.forall_mem_cons.mpr ⟨kS4, List.forall_mem_cons.mpr ⟨kW5, List.forall_mem_cons.mpr ⟨kl, List.forall_mem_cons.mpr ⟨k0, List.forall_mem_cons.mpr ⟨kW11, fun _ h9 => absurd h9 List.not_mem_nil⟩⟩⟩⟩⟩⟩
  have hbL : ∀ x ∈ Lc, bs x.1 = x.2.2.1 := by rw [hLc]; exact List.forall_mem_cons.mpr ⟨rfl, List.forall_mem_cons.mpr ⟨rfl, List.forall_mem_cons.mpr ⟨rfl, List.forall_mem_cons.mpr ⟨rfl, List.forall_mem_cons.mpr ⟨rfl, List.forall_mem_cons.mpr ⟨rfl, fun _ h9 => absurd h9 List.not_mem_nil⟩⟩⟩⟩⟩⟩
  refine mbQ_i (As := []) (rest := []) Lc S9 k0 hP hD hS hA (c11_ballot (l := l) (D := D) (ad_this := (ad 0)) (cy_this := (cy 0)) (z_this_tape := (ad 1 0)) (z_this_ladderReader := (ad 2 0)) (z_this_ruleReader := (ad 3 0)) (z_this_rules := rls) (z_this_ruleCount := (nn m)) (z_this_images := ims) (z_this_past := pst) (z_this_pastNext := (nn nx)) (z_this_pastCount := (nn c)) (z_this_hours := (ad 6 0)) (z_this_outlook := (ad 7 0)) (z_this_paths := (ad 9 0)) (ad_this_now := (ad 4)) (cy_this_now := (cy 4)) (z_this_now_force := fo) (z_this_now_x := x) (z_this_now_notes := notes) (z_this_now_noteHour := nh) (z_this_now_noteRung := nr) (z_this_now_noteMany := nm) (z_this_now_made := md) (ad_this_now_world := (ad 5)) (cy_this_now_world := (cy 5)) (z_this_now_world_hour := hour) (z_this_now_world_broken := broken) (z_this_now_world_rung := rung) (z_this_now_world_grip := grip) (z_this_now_world_want := want) (z_this_now_world_slips := slips) (z_this_now_world_worn := worn) (ad_this_now_world_ladder := lh) (cy_this_now_world_ladder := ly) (z_this_now_world_ladder_rungs := ru) (z_this_now_world_ladder_people := pe) (z_this_now_world_ladder_startBroken := sb) (z_this_now_world_ladder_room := ro) (z_this_now_world_ladder_strength := str) (z_this_now_world_ladder_weight := wt) (z_this_now_world_ladder_told := tol) (z_this_now_world_ladder_startRung := srr) (z_this_now_world_ladder_startWant := sww) (ad_this_siege := (ad 10)) (cy_this_siege := (cy 10)) (z_this_siege_firstStep := sf) (ad_this_siege_trial := (ad 11)) (cy_this_siege_trial := (cy 11)) (z_this_siege_trial_ladder := uq) (z_this_siege_trial_hour := uh) (z_this_siege_trial_broken := ub) (z_this_siege_trial_rung := ur) (z_this_siege_trial_grip := ug) (z_this_siege_trial_want := uw) (z_this_siege_trial_slips := us) (z_this_siege_trial_worn := uk) (o_ret := v) (o_this_siege_trial_hour := v1) (o_this_siege_trial_broken := v2) (o_this_siege_trial_rung := v3) (o_this_siege_trial_grip := v4) (o_this_siege_trial_want := v5) (o_this_siege_trial_slips := v6) (o_this_siege_trial_worn := v7) (o_link_this_siege_trial := v8) hc) hnd hlt hkL hbL (by rw [hLc]; rfl) (by rw [hLc]; simp only [List.flatMap_cons, List.flatMap_nil, List.append_nil, List.append_assoc]; rw [b0, b4, b5, bl, b10, b11]) (by rw [hLc]; simp only [List.flatMap_cons, List.flatMap_nil, List.append_nil, List.append_assoc]; rw [b0, b4, b5, bl, b10, hu11]) (gdV mw_53_7 mw_53_8 mw_53_9 mw_1_2 mw_53_10) rfl rfl hd_f11_ballot ⟨Nat.le_of_ble_eq_true rfl, Nat.le_of_ble_eq_true rfl⟩ (ci := 11) (q0 := 0) rfl rfl rfl hl.1 rfl (Nat.le_of_ble_eq_true rfl) dL_law_760 hf9 (fun H locs hP hD hS => ?_)
  obtain ⟨bc, hbc⟩ : ∃ X, X = bsetL bs Lc := ⟨_, rfl⟩
  rw [← hbc] at hP hD
  have t0 : bc 0 = bs 0 := by rw [hbc]; exact bsetL_at (x := (0, tLL (cy 0), bs 0, bs 0)) hnd (by rw [hLc]; exact List.mem_of_getElem? (i := 0) rfl)
  have t1 : bc 4 = bs 4 := by rw [hbc]; exact bsetL_at (x := (4, tSt (cy 4), bs 4, bs 4)) hnd (by rw [hLc]; exact List.mem_of_getElem? (i := 1) rfl)
  have t2 : bc 5 = bs 5 := by rw [hbc]; exact bsetL_at (x := (5, tW (cy 5), bs 5, bs 5)) hnd (by rw [hLc]; exact List.mem_of_getElem? (i := 2) rfl)
  have t3 : bc jl = bs jl := by rw [hbc]; exact bsetL_at (x := (jl, tLd ly, bs jl, bs jl)) hnd (by rw [hLc]; exact List.mem_of_getElem? (i := 3) rfl)
  have t4 : bc 10 = bs 10 := by rw [hbc]; exact bsetL_at (x := (10, [], bs 10, bs 10)) hnd (by rw [hLc]; exact List.mem_of_getElem? (i := 4) rfl)
  have t5 : bc 11 = u11 := by rw [hbc]; exact bsetL_at (x := (11, tW (cy 11), bs 11, u11)) hnd (by rw [hLc]; exact List.mem_of_getElem? (i := 5) rfl)
  have E1 : ∀ j, (j ≠ 11) → bc j = bs j := by
    intro j hj
    by_cases q0 : j = 0
    · rw [q0]; exact t0
    by_cases q1 : j = 4
    · rw [q1]; exact t1
    by_cases q2 : j = 5
    · rw [q2]; exact t2
    by_cases q3 : j = jl
    · rw [q3]; exact t3
    by_cases q4 : j = 10
    · rw [q4]; exact t4
    rw [hbc]
    exact bsetL_ne (by rw [hLc]; show j ∉ ([0, 4, 5, jl, 10, 11] : List Nat); simp only [List.mem_cons, List.not_mem_nil, or_false, not_or]; omega)
  refine lv_aload_n hx hb dL_law_763 rfl (lv_at hl 1 rfl) ?_
  obtain ⟨um, hum⟩ : ∃ X : va_W, X = (cM (ad 46) (cy 46) tape len (nn m) sign lg clause clauses rd nxt wrg num txt mde dep lns opn opd stk tp wd S fo x wil mov brk w (nn c) kpt bhr far que qud onw mvp mvk isf sth drx im imF imX imM) := ⟨_, rfl⟩
  have bm : bc 46 = _ := (E1 46 (by omega)).trans b46
  obtain ⟨Lm, hLm⟩ : ∃ X : List (Nat × List (ClassId × FieldType) × va_W × va_W), X = [(46, tM (cy 46), bc 46, um)] := ⟨_, rfl⟩
  have hnm : (Lm.map Prod.fst).Nodup := by rw [hLm]; show ([46] : List Nat).Nodup; decide
  refine mbQ_i (As := []) (rest := [.int v]) Lm S9 k0 hP hD hS hA (c12_ballot (l := l) (D := D) (ad := (ad 46)) (cy := (cy 46)) (z_tape := tape) (z_taped := len) (z_rules := (nn m)) (z_sign := sign) (z_length := lg) (z_clause := clause) (z_clauses := clauses) (z_read := rd) (z_next := nxt) (z_wrong := wrg) (z_number := num) (z_text := txt) (z_made := mde) (z_deep := dep) (z_lines := lns) (z_open := opn) (z_opened := opd) (z_stack := stk) (z_top := tp) (z_word := wd) (z_said := S) (z_force := fo) (z_x := x) (z_will := wil) (z_moved := mov) (z_broke := brk) (z_wasSaid := w) (z_undone := (nn c)) (z_kept := kpt) (z_breakHour := bhr) (z_far := far) (z_queue := que) (z_queued := qud) (z_isOnWay := onw) (z_movePerson := mvp) (z_moveKind := mvk) (z_isFit := isf) (z_standThen := sth) (z_drawX := drx) (z_images := im) (z_imageForce := imF) (z_imageX := imX) (z_isMade := imM) (o_ret := v) (o_said := S) hm) hnm (by rw [hLm]; exact List.forall_mem_cons.mpr ⟨show 46 < N by omega, fun _ h9 => absurd h9 List.not_mem_nil⟩) (by rw [hLm]; exact List.forall_mem_cons.mpr ⟨kM, fun _ h9 => absurd h9 List.not_mem_nil⟩) (by rw [hLm]; exact List.forall_mem_cons.mpr ⟨rfl, fun _ h9 => absurd h9 List.not_mem_nil⟩) (by rw [hLm]; rfl) (by rw [hLm]; simp only [List.flatMap_cons, List.flatMap_nil, List.append_nil, List.append_assoc]; rw [bm]) (by rw [hLm]; simp only [List.flatMap_cons, List.flatMap_nil, List.append_nil, List.append_assoc]; rw [hum]) (gdV mw_54_5 mw_54_6 mw_54_7 mw_1_5 mw_54_8) rfl rfl hd_f12_ballot ⟨Nat.le_of_ble_eq_true rfl, Nat.le_of_ble_eq_true rfl⟩ (ci := 12) (q0 := 0) rfl rfl rfl hl.1 rfl (Nat.le_of_ble_eq_true rfl) dL_law_764 hf9 (fun H locs hP hD hS => ?_)
  obtain ⟨bn, hbn⟩ : ∃ X, X = bsetL bc Lm := ⟨_, rfl⟩
  rw [← hbn] at hP hD
  have tm : bn 46 = um := by rw [hbn]; exact bsetL_at (x := (46, tM (cy 46), bc 46, um)) hnm (by rw [hLm]; exact List.mem_of_getElem? (i := 0) rfl)
  have E2 : ∀ j, j ≠ 46 → bn j = bc j := by
    intro j hj
    rw [hbn]
    exact bsetL_ne (by rw [hLm]; show j ∉ ([46] : List Nat); simp only [List.mem_cons, List.not_mem_nil, or_false]; exact hj)
  have E : ∀ j, (j ≠ 46 ∧ j ≠ 11) → bn j = bs j := fun j hj => (E2 j (by omega)).trans (E1 j (by omega))
  have s5 : bn 11 = u11 := (E2 _ (by omega)).trans t5
  refine lv_icmp_eq (tgt := 1115) hx hb dL_law_767 rfl (fun _ => ?_) (fun c8 => absurd rfl c8)
  refine W.widen (k := cells + 8) (n := slots + 13200) (Nat.le_add_right _ _) (Nat.le_add_right _ _) ?_
  have EL : ∀ j, 47 ≤ j → j < N → bn j = bs j := fun j h1 h2 => E j (by omega)
  exact kk N bn H locs ⟨m, c, nx, tn, R, P, (lh 0), rls, bytes, len, fo, x, notes, nh, nr, nm, hour, broken, rung, grip, want, slips, worn, tape, sign, clause, clauses, S, w, im, imF, imX, imM, hN, (E 0 (by omega)).trans b0, hBT.congr (E 1 (by omega)), (E 2 (by omega)).trans b2, hBRR.congr (E 3 (by omega)), hBN.congr (E 4 (by omega)), (E 5 (by omega)).trans b5, hBH.congr (E 6 (by omega)), hBO.congr (E 7 (by omega)), hB8.congr (E 8 (by omega)), hBP.congr (E 9 (by omega)), hBS.congr (E 10 (by omega)), ⟨_, _, _, _, _, _, _, _, (s5.trans hu11)⟩, hSc.congr (Nat.le_refl _) EL, hPs.congr (fun k hk => E _ (by omega)), hIm.congr (Nat.le_refl _) (Nat.le_refl _) (fun k hk => E _ (by omega)) EL, hRu.congr (fun j hj => E _ (by omega)) hm6, ⟨_, _, _, _, _, _, _, _, _, _, _, _, _, _, _, _, _, _, _, _, _, _, _, _, _, _, _, _, tm.trans hum⟩, hTP, hm6, hof, hox⟩ hP hD hS

set_option maxHeartbeats 8000000 in
set_option maxRecDepth 100000 in
theorem k_hold (C : Cx p m9 c9 s A D adK adV ad cy ims pst b L xs) (hi : i + 6 ≤ L) (T : Top D s ad cy ims pst N bs) (hP : va_P D vwCl (bW N bs) H) (hD : va_D A (bW N bs)) (hS : va_S A s.heap H locs) (hl : lv_has ls 4 (lvL ad b i)) (hf : cells + 8 ≤ 600000 ∧ slots + 13200 ≤ 7302250)
    (kk : ∀ (N : Nat) (bs : Nat → va_W) (H : Heap) (locs : List Loc), Top D s ad cy ims pst N bs → va_P D vwCl (bW N bs) H → va_D A (bW N bs) → va_S A s.heap H locs → W p l e room_1 s m9 #[.ref b] below meth c9 H locs (cells + 8) (slots + 13200) Q (F0 m9 1115 ls [])) : W p l e room_1 s m9 #[.ref b] below meth c9 H locs cells slots Q (F0 m9 772 ls []) := by
  obtain ⟨m, c, nx, tn, R, P, A0, rls, bytes, len, fo, x, notes, nh, nr, nm, hour, broken, rung, grip, want, slips, worn, tape, sign, clause, clauses, S, w, im, imF, imX, imM, hN, b0, hBT, b2, hBRR, hBN, b5, hBH, hBO, hB8, hBP, hBS, hB11, hSc, hPs, hIm, hRu, hBM, hTP, hm6, hof, hox⟩ := T
  obtain ⟨S9, hA, hbA, hbl, hX, hL9, hF, hE9, hV9⟩ := id C
  obtain ⟨hx, hb, hml, hown, hts⟩ := id S9
  obtain ⟨k0, kLL, kTp, kRR, kS4, kW5, kH, kO, kW8, kW11, kM, kIm, kPs⟩ := id hF
  have hf9 : cells ≤ room_1.cells ∧ slots ≤ room_1.slots := ⟨Nat.le_trans (Nat.le_add_right _ _) hf.1, Nat.le_trans (Nat.le_add_right _ _) hf.2⟩
  obtain ⟨lg, rd, nxt, wrg, num, txt, mde, dep, lns, opn, opd, stk, tp, wd, wil, mov, brk, kpt, bhr, far, que, qud, onw, mvp, mvk, isf, sth, drx, b46⟩ := id hBM
  obtain ⟨jl, lh, ly, ru, pe, sb, ro, str, wt, tol, srr, sww, g1, g2, g3, bl, kl, hI, hW, hL, hWT, hBg, hhr, hNo⟩ := id hSc
  subst g3
  obtain ⟨md, b4⟩ := id hBN
  obtain ⟨sf, b10⟩ := id hBS
  obtain ⟨uq, uh, ub, ur, ug, uw, us, uk, b11⟩ := id hB11
  obtain ⟨v, v0, v1, v2, v3, v4, v5, v6, v7, v8, kp1, hc, hm⟩ := r_hold (fs := sf) (th := uh) (tb := ub) (tr := ur) (tg := ug) (tw := uw) (ts := us) (tk := uk) (qn := lh 0) (qt := uq) (kept := kpt) hI hW hL (xs (i + 1)) (xs (i + 2))
  refine lv_aload_n hx hb dL_law_772 rfl (lv_at hl 2 rfl) ?_
  refine ld1 C hS hl hi dL_law_773 dL_law_774 dL_law_775 dL_law_776 dL_law_777 ?_
  refine ld2 C hS hl hi dL_law_778 dL_law_779 dL_law_780 dL_law_781 dL_law_782 ?_
  obtain ⟨u10, hu10⟩ : ∃ X : va_W, X = cSg (ad 10) (cy 10) v0 ((ad 11) 0) := ⟨_, rfl⟩
  obtain ⟨u11, hu11⟩ : ∃ X : va_W, X = cW (ad 11) (cy 11) v8 v1 v2 v3 v4 v5 v6 v7 := ⟨_, rfl⟩
  obtain ⟨Lc, hLc⟩ : ∃ X : List (Nat × List (ClassId × FieldType) × va_W × va_W), X = [(0, tLL (cy 0), bs 0, bs 0), (4, tSt (cy 4), bs 4, bs 4), (5, tW (cy 5), bs 5, bs 5), (jl, tLd ly, bs jl, bs jl), (10, [], bs 10, u10), (11, tW (cy 11), bs 11, u11)] := ⟨_, rfl⟩
  have hnd : (Lc.map Prod.fst).Nodup := by rw [hLc]; show ([0, 4, 5, jl, 10, 11] : List Nat).Nodup; simp only [List.nodup_cons, List.mem_cons, List.not_mem_nil, or_false, not_or, List.nodup_nil, and_true, not_false_eq_true] <;> omega
  have hlt : ∀ x ∈ Lc, x.1 < N := by rw [hLc]; exact List.forall_mem_cons.mpr ⟨show 0 < N by omega, List.forall_mem_cons.mpr ⟨show 4 < N by omega, List.forall_mem_cons.mpr ⟨show 5 < N by omega, List.forall_mem_cons.mpr ⟨show jl < N by omega, List.forall_mem_cons.mpr ⟨show 10 < N by omega, List.forall_mem_cons.mpr ⟨show 11 < N by omega, fun _ h9 => absurd h9 List.not_mem_nil⟩⟩⟩⟩⟩⟩
  have hkL : ∀ x ∈ Lc, va_K D vwCl x.2.1 s := by rw [hLc]; exact List.forall_mem_cons.mpr ⟨kLL, List.forall_mem_cons.mpr ⟨kS4, List.forall_mem_cons.mpr ⟨kW5, List.forall_mem_cons.mpr ⟨kl, List.forall_mem_cons.mpr ⟨k0, List.forall_mem_cons.mpr ⟨kW11, fun _ h9 => absurd h9 List.not_mem_nil⟩⟩⟩⟩⟩⟩
  have hbL : ∀ x ∈ Lc, bs x.1 = x.2.2.1 := by rw [hLc]; exact List.forall_mem_cons.mpr ⟨rfl, List.forall_mem_cons.mpr ⟨rfl, List.forall_mem_cons.mpr ⟨rfl, List.forall_mem_cons.mpr ⟨rfl, List.forall_mem_cons.mpr ⟨rfl, List.forall_mem_cons.mpr ⟨rfl, fun _ h9 => absurd h9 List.not_mem_nil⟩⟩⟩⟩⟩⟩
  refine mbQ_i (As := [.int (xs (i + 1)), .int (xs (i + 2))]) (rest := []) Lc S9 k0 hP hD hS hA (c11_hold (l := l) (D := D) (ad_this := (ad 0)) (cy_this := (cy 0)) (z_this_tape := (ad 1 0)) (z_this_ladderReader := (ad 2 0)) (z_this_ruleReader := (ad 3 0)) (z_this_rules := rls) (z_this_ruleCount := (nn m)) (z_this_images := ims) (z_this_past := pst) (z_this_pastNext := (nn nx)) (z_this_pastCount := (nn c)) (z_this_hours := (ad 6 0)) (z_this_outlook := (ad 7 0)) (z_this_paths := (ad 9 0)) (ad_this_now := (ad 4)) (cy_this_now := (cy 4)) (z_this_now_force := fo) (z_this_now_x := x) (z_this_now_notes := notes) (z_this_now_noteHour := nh) (z_this_now_noteRung := nr) (z_this_now_noteMany := nm) (z_this_now_made := md) (ad_this_now_world := (ad 5)) (cy_this_now_world := (cy 5)) (z_this_now_world_hour := hour) (z_this_now_world_broken := broken) (z_this_now_world_rung := rung) (z_this_now_world_grip := grip) (z_this_now_world_want := want) (z_this_now_world_slips := slips) (z_this_now_world_worn := worn) (ad_this_now_world_ladder := lh) (cy_this_now_world_ladder := ly) (z_this_now_world_ladder_rungs := ru) (z_this_now_world_ladder_people := pe) (z_this_now_world_ladder_startBroken := sb) (z_this_now_world_ladder_room := ro) (z_this_now_world_ladder_strength := str) (z_this_now_world_ladder_weight := wt) (z_this_now_world_ladder_told := tol) (z_this_now_world_ladder_startRung := srr) (z_this_now_world_ladder_startWant := sww) (ad_this_siege := (ad 10)) (cy_this_siege := (cy 10)) (z_this_siege_firstStep := sf) (ad_this_siege_trial := (ad 11)) (cy_this_siege_trial := (cy 11)) (z_this_siege_trial_ladder := uq) (z_this_siege_trial_hour := uh) (z_this_siege_trial_broken := ub) (z_this_siege_trial_rung := ur) (z_this_siege_trial_grip := ug) (z_this_siege_trial_want := uw) (z_this_siege_trial_slips := us) (z_this_siege_trial_worn := uk) (a1 := (xs (i + 1))) (a2 := (xs (i + 2))) (o_ret := v) (o_this_siege_firstStep := v0) (o_this_siege_trial_hour := v1) (o_this_siege_trial_broken := v2) (o_this_siege_trial_rung := v3) (o_this_siege_trial_grip := v4) (o_this_siege_trial_want := v5) (o_this_siege_trial_slips := v6) (o_this_siege_trial_worn := v7) (o_link_this_siege_trial := v8) hc) hnd hlt hkL hbL (by rw [hLc]; rfl) (by rw [hLc]; simp only [List.flatMap_cons, List.flatMap_nil, List.append_nil, List.append_assoc]; rw [b0, b4, b5, bl, b10, b11]) (by rw [hLc]; simp only [List.flatMap_cons, List.flatMap_nil, List.append_nil, List.append_assoc]; rw [b0, b4, b5, bl, hu10, hu11]) (gdV mw_54_9 mw_54_10 mw_54_11 mw_1_2 mw_54_12) rfl rfl hd_f11_hold ⟨Nat.le_of_ble_eq_true rfl, Nat.le_of_ble_eq_true rfl⟩ (ci := 11) (q0 := 0) rfl rfl rfl hl.1 rfl (Nat.le_of_ble_eq_true rfl) dL_law_783 hf9 (fun H locs hP hD hS => ?_)
  obtain ⟨bc, hbc⟩ : ∃ X, X = bsetL bs Lc := ⟨_, rfl⟩
  rw [← hbc] at hP hD
  have t0 : bc 0 = bs 0 := by rw [hbc]; exact bsetL_at (x := (0, tLL (cy 0), bs 0, bs 0)) hnd (by rw [hLc]; exact List.mem_of_getElem? (i := 0) rfl)
  have t1 : bc 4 = bs 4 := by rw [hbc]; exact bsetL_at (x := (4, tSt (cy 4), bs 4, bs 4)) hnd (by rw [hLc]; exact List.mem_of_getElem? (i := 1) rfl)
  have t2 : bc 5 = bs 5 := by rw [hbc]; exact bsetL_at (x := (5, tW (cy 5), bs 5, bs 5)) hnd (by rw [hLc]; exact List.mem_of_getElem? (i := 2) rfl)
  have t3 : bc jl = bs jl := by rw [hbc]; exact bsetL_at (x := (jl, tLd ly, bs jl, bs jl)) hnd (by rw [hLc]; exact List.mem_of_getElem? (i := 3) rfl)
  have t4 : bc 10 = u10 := by rw [hbc]; exact bsetL_at (x := (10, [], bs 10, u10)) hnd (by rw [hLc]; exact List.mem_of_getElem? (i := 4) rfl)
  have t5 : bc 11 = u11 := by rw [hbc]; exact bsetL_at (x := (11, tW (cy 11), bs 11, u11)) hnd (by rw [hLc]; exact List.mem_of_getElem? (i := 5) rfl)
  have E1 : ∀ j, (j ≠ 10 ∧ j ≠ 11) → bc j = bs j := by
    intro j hj
    by_cases q0 : j = 0
    · rw [q0]; exact t0
    by_cases q1 : j = 4
    · rw [q1]; exact t1
    by_cases q2 : j = 5
    · rw [q2]; exact t2
    by_cases q3 : j = jl
    · rw [q3]; exact t3
    rw [hbc]
    exact bsetL_ne (by rw [hLc]; show j ∉ ([0, 4, 5, jl, 10, 11] : List Nat); simp only [List.mem_cons, List.not_mem_nil, or_false, not_or]; omega)
  refine lv_aload_n hx hb dL_law_786 rfl (lv_at hl 1 rfl) ?_
  refine ld1 C hS hl hi dL_law_787 dL_law_788 dL_law_789 dL_law_790 dL_law_791 ?_
  refine ld2 C hS hl hi dL_law_792 dL_law_793 dL_law_794 dL_law_795 dL_law_796 ?_
  obtain ⟨um, hum⟩ : ∃ X : va_W, X = (cM (ad 46) (cy 46) tape len (nn m) sign lg clause clauses rd nxt wrg num txt mde dep lns opn opd stk tp wd S fo x wil mov brk w (nn c) kp1 bhr far que qud onw mvp mvk isf sth drx im imF imX imM) := ⟨_, rfl⟩
  have bm : bc 46 = _ := (E1 46 (by omega)).trans b46
  obtain ⟨Lm, hLm⟩ : ∃ X : List (Nat × List (ClassId × FieldType) × va_W × va_W), X = [(46, tM (cy 46), bc 46, um)] := ⟨_, rfl⟩
  have hnm : (Lm.map Prod.fst).Nodup := by rw [hLm]; show ([46] : List Nat).Nodup; decide
  refine mbQ_i (As := [.int (xs (i + 1)), .int (xs (i + 2))]) (rest := [.int v]) Lm S9 k0 hP hD hS hA (c12_hold (l := l) (D := D) (ad := (ad 46)) (cy := (cy 46)) (z_tape := tape) (z_taped := len) (z_rules := (nn m)) (z_sign := sign) (z_length := lg) (z_clause := clause) (z_clauses := clauses) (z_read := rd) (z_next := nxt) (z_wrong := wrg) (z_number := num) (z_text := txt) (z_made := mde) (z_deep := dep) (z_lines := lns) (z_open := opn) (z_opened := opd) (z_stack := stk) (z_top := tp) (z_word := wd) (z_said := S) (z_force := fo) (z_x := x) (z_will := wil) (z_moved := mov) (z_broke := brk) (z_wasSaid := w) (z_undone := (nn c)) (z_kept := kpt) (z_breakHour := bhr) (z_far := far) (z_queue := que) (z_queued := qud) (z_isOnWay := onw) (z_movePerson := mvp) (z_moveKind := mvk) (z_isFit := isf) (z_standThen := sth) (z_drawX := drx) (z_images := im) (z_imageForce := imF) (z_imageX := imX) (z_isMade := imM) (a1 := (xs (i + 1))) (a2 := (xs (i + 2))) (o_ret := v) (o_said := S) (o_kept := kp1) hm) hnm (by rw [hLm]; exact List.forall_mem_cons.mpr ⟨show 46 < N by omega, fun _ h9 => absurd h9 List.not_mem_nil⟩) (by rw [hLm]; exact List.forall_mem_cons.mpr ⟨kM, fun _ h9 => absurd h9 List.not_mem_nil⟩) (by rw [hLm]; exact List.forall_mem_cons.mpr ⟨rfl, fun _ h9 => absurd h9 List.not_mem_nil⟩) (by rw [hLm]; rfl) (by rw [hLm]; simp only [List.flatMap_cons, List.flatMap_nil, List.append_nil, List.append_assoc]; rw [bm]) (by rw [hLm]; simp only [List.flatMap_cons, List.flatMap_nil, List.append_nil, List.append_assoc]; rw [hum]) (gdV mw_55_5 mw_55_6 mw_55_7 mw_1_5 mw_55_8) rfl rfl hd_f12_hold ⟨Nat.le_of_ble_eq_true rfl, Nat.le_of_ble_eq_true rfl⟩ (ci := 12) (q0 := 0) rfl rfl rfl hl.1 rfl (Nat.le_of_ble_eq_true rfl) dL_law_797 hf9 (fun H locs hP hD hS => ?_)
  obtain ⟨bn, hbn⟩ : ∃ X, X = bsetL bc Lm := ⟨_, rfl⟩
  rw [← hbn] at hP hD
  have tm : bn 46 = um := by rw [hbn]; exact bsetL_at (x := (46, tM (cy 46), bc 46, um)) hnm (by rw [hLm]; exact List.mem_of_getElem? (i := 0) rfl)
  have E2 : ∀ j, j ≠ 46 → bn j = bc j := by
    intro j hj
    rw [hbn]
    exact bsetL_ne (by rw [hLm]; show j ∉ ([46] : List Nat); simp only [List.mem_cons, List.not_mem_nil, or_false]; exact hj)
  have E : ∀ j, (j ≠ 46 ∧ j ≠ 10 ∧ j ≠ 11) → bn j = bs j := fun j hj => (E2 j (by omega)).trans (E1 j (by omega))
  have s4 : bn 10 = u10 := (E2 _ (by omega)).trans t4
  have s5 : bn 11 = u11 := (E2 _ (by omega)).trans t5
  refine lv_icmp_eq (tgt := 1115) hx hb dL_law_800 rfl (fun _ => ?_) (fun c8 => absurd rfl c8)
  refine W.widen (k := cells + 8) (n := slots + 13200) (Nat.le_add_right _ _) (Nat.le_add_right _ _) ?_
  have EL : ∀ j, 47 ≤ j → j < N → bn j = bs j := fun j h1 h2 => E j (by omega)
  exact kk N bn H locs ⟨m, c, nx, tn, R, P, (lh 0), rls, bytes, len, fo, x, notes, nh, nr, nm, hour, broken, rung, grip, want, slips, worn, tape, sign, clause, clauses, S, w, im, imF, imX, imM, hN, (E 0 (by omega)).trans b0, hBT.congr (E 1 (by omega)), (E 2 (by omega)).trans b2, hBRR.congr (E 3 (by omega)), hBN.congr (E 4 (by omega)), (E 5 (by omega)).trans b5, hBH.congr (E 6 (by omega)), hBO.congr (E 7 (by omega)), hB8.congr (E 8 (by omega)), hBP.congr (E 9 (by omega)), ⟨_, (s4.trans hu10)⟩, ⟨_, _, _, _, _, _, _, _, (s5.trans hu11)⟩, hSc.congr (Nat.le_refl _) EL, hPs.congr (fun k hk => E _ (by omega)), hIm.congr (Nat.le_refl _) (Nat.le_refl _) (fun k hk => E _ (by omega)) EL, hRu.congr (fun j hj => E _ (by omega)) hm6, ⟨_, _, _, _, _, _, _, _, _, _, _, _, _, _, _, _, _, _, _, _, _, _, _, _, _, _, _, _, tm.trans hum⟩, hTP, hm6, hof, hox⟩ hP hD hS

end
