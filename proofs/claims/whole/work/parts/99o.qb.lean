/-! ruled and look over blocks -/
section
variable {p : Program} {l : Launch} {e : Env} {R : Room} {s : State} {m : MethodId} {args : Array Value} {below : List Frame} {meth : Method} {c : Code} {H : Heap} {locs : List Loc} {Q : State → Prop} {cells slots : Nat}
variable {cc : ByteArray} {pc : Nat} {ls : Array Slot} {rest st0 : List Value} {D : va_G} {A : Nat → Prop} {tys : List (ClassId × FieldType)} {ws : va_W} {ws' : Nat → va_W} {own C : String} {nL n index maxL b : Nat} {y : MethodName} {bytes : ByteArray} {ret : Option FieldType} {rm : Room} {As : List Value}
theorem mdX_i {r : Int32} (S : CallFix p m c cc nL s args wsL_law own) (hK : va_K D vwCl tys s) (hP : va_P D vwCl ws H) (hD : va_D A ws) (hS : va_S A s.heap H locs) (hA : ∀ q, s.heap.size ≤ q → A q)
    (hM : MetIX l y bytes maxL ret rm D tys ws ws' (.ref b :: As) r) (hg : GoodIn wsL_law (wsV own index C y (Cond.code y bytes maxL ret :: wsL_law))) (hrc : rm.cells = 0) (hrs : rm.slots = 0)
    (hd : y.cls = C ∧ y.cls ≠ "java/lang/invoke/MethodHandle" ∧ y.cls ≠ "java/lang/invoke/VarHandle" ∧ (parseMethodDescriptor y.desc).map (fun d => d.parameters.length) = some n) (hR : rm.frames + 1 ≤ R.frames ∧ 8 + (maxL + 11) + rm.locals ≤ R.locals)
    {ci q0 : Nat} {T : u_T} {N : Nat} {fs : List Value} (hc : vwCl[ci]? = some (C, T, N)) (he : ws[q0]? = some (b, .inr (ci, fs)))
    (hn : As.length = n) (hl : ls.size = nL) (hst : st0 = As.reverse ++ .ref b :: rest) (hr8 : (rest.map fun v => v.category).sum ≤ 8) (hdg : decode cc pc = .ok (.invokevirtual index, 3))
    (hf : cells ≤ R.cells ∧ slots ≤ R.slots)
    (kk : ∀ (kx : Nat) (H1 : Heap) (locs1 : List Loc), va_P D vwCl (ws' kx) H1 → va_D A (ws' kx) → va_S A s.heap H1 locs1 → W p l e R s m args below meth c H1 locs1 cells slots Q (F0 m (pc + 3) ls (.int r :: rest))) : W p l e R s m args below meth c H locs cells slots Q (F0 m pc ls st0) := by
  have hF := fr_all hD hS hA
  refine va_calli (va_runV (As := As) (rest := rest) S (hM H.size) (cwV n S.2.2.2.2 hg rfl hrc hrs hd hR) ⟨PreM_blind D tys ws H.size _, va_recv hK hP hc he, fun U hU hW => ⟨rfl, by rw [hU], by rw [hU]; exact hP, va_K.moved hW.alike hK, hD.weaken (fun _ _ _ _ => trivial)⟩⟩ rfl hn hl hst (lv_room hr8) hdg hf) hS (fun q _ h => hF q h) hF (fun r' u t H1 locs1 ht hvm hw hB hz1 hk1 hS1 => ?_)
  obtain ⟨hP1, hD1⟩ := hB
  rw [ht] at hP1
  subst hw
  exact kk u H1 locs1 hP1 (hD1.weaken (fun _ q _ h => hF _ h)) hS1
theorem bW_at {N j : Nat} {bs : Nat → va_W} {w : va_W} {x : Nat × _} (hj : j < N) (hw : bs j = x :: w) : ∃ q0 : Nat, (bW N bs)[q0]? = some x :=
  List.mem_iff_getElem?.mp (List.mem_flatMap.mpr ⟨j, List.mem_range.mpr hj, by rw [hw]; exact List.mem_cons_self⟩)
end
abbrev rm_f11_ruled : Room := { frames := 7, cells := 0, slots := 0, locals := 180 }
theorem hd_f11_ruled : yX11_ruled.cls = RX11 ∧ yX11_ruled.cls ≠ "java/lang/invoke/MethodHandle" ∧ yX11_ruled.cls ≠ "java/lang/invoke/VarHandle" ∧ (parseMethodDescriptor yX11_ruled.desc).map (fun d => d.parameters.length) = some 1 := by decide +kernel
set_option maxHeartbeats 8000000 in
set_option maxRecDepth 100000 in
theorem c11_ruled {l : Launch} {D : va_G} {N m nx c jl : Nat} {bs : Nat → va_W} {ad : Nat → Nat → Nat} {cy : Nat → Nat → ClassId} {ims pst rls : Nat → Option Nat} {lh : Nat → Nat} {ly : Nat → ClassId} {ra : Nat → Nat → Nat} {ry : Nat → Nat → ClassId} {o1 o2 o3 o4 o7 o8 o9 oa ob fo x notes md hour broken ru pe sb : Int32} {nh nr nm rung grip want slips worn ro str wt tol srr sww : Nat → Int32} {ncF nsF ntF : Nat → Nat} {codeF seF teF : Nat → Nat → Int32} {fc ff hbk th tb : Int32} {cr wl de tr tg tw ts tk tps : Nat → Int32} {wo : Nat → Int64} {stk : Nat → Nat → Int64} {tq : Nat} {v a1 : Int32} {fc1 ff1 hbk1 th1 tb1 : Int32} {cr1 wl1 de1 tr1 tg1 tw1 ts1 tk1 tps1 : Nat → Int32} {wo1 : Nat → Int64} {stk1 : Nat → Nat → Int64} (hN : 46 < N) (hm : m ≤ 6) (b0 : bs 0 = cLL (ad 0) (cy 0) (ad 1 0) (ad 2 0) (ad 3 0) rls (nn m) (ad 4 0) ims pst (nn nx) (nn c) (ad 6 0) (ad 7 0) (ad 9 0) (ad 10 0)) (b4 : bs 4 = cSt (ad 4) (cy 4) (ad 5 0) fo x notes nh nr nm md) (b5 : bs 5 = cW (ad 5) (cy 5) (lh 0) hour broken rung grip want slips worn) (g1 : 47 ≤ jl) (g2 : jl < N) (bl : bs jl = cLd lh ly ru pe sb ro str wt tol srr sww) (hrl : ∀ j, j < m → rls j = some (ra j 0)) (h : f11_ruled rls (nn m) (fun j => ra j 0) ncF codeF nsF seF ntF teF stk tps notes nh nr nm ru pe sb ro str wt tol srr sww fc ff cr hbk wl de wo th tb tr tg tw ts tk a1 = some (v, fc1, ff1, cr1, hbk1, wl1, de1, wo1, th1, tb1, tr1, tg1, tw1, ts1, tk1, stk1, tps1)) : MetIX l yX11_ruled cX11_ruled 2 (some .int) rm_f11_ruled D (tLL (cy 0) ++ (tSt (cy 4) ++ (tW (cy 5) ++ (tH (cy 6) ++ (tO (cy 7) ++ (tW (cy 8) ++ (tLd ly ++ (List.range m).flatMap (fun j => tRu (ry j))))))))) (bW N (oB bs m (cO (ad 7) (cy 7) o1 o2 o3 o4 fc ff o7 o8 o9 oa ob (ad 6 0) (ad 8 0) cr) (cH (ad 6) (cy 6) hbk wl de wo) (cW (ad 8) (cy 8) tq th tb tr tg tw ts tk) (fun j => cRu (ra j) (ry j) (ncF j) (codeF j) (nsF j) (seF j) (ntF j) (teF j) (stk j) (tps j)))) (fun kx => bW N (oB bs m (cO (ad 7) (cy 7) o1 o2 o3 o4 fc1 ff1 o7 o8 o9 oa ob (ad 6 0) (ad 8 0) cr1) (cH (ad 6) (cy 6) hbk1 wl1 de1 wo1) (cW (ad 8) (cy 8) kx th1 tb1 tr1 tg1 tw1 ts1 tk1) (fun j => cRu (ra j) (ry j) (ncF j) (codeF j) (nsF j) (seF j) (ntF j) (teF j) (stk1 j) (tps1 j)))) [.ref (ad 0 0), .int a1] v := by
  refine metIX_of (own := RX11) rfl (by decide) (Nat.le_of_ble_eq_true rfl) ?_
  intro p e s m9 args below meth c9 A Q ls S hK hA hP hD hS hl hret
  obtain ⟨hx, hb, hml, hown, hts⟩ := id S
  replace hl : lv_has ls 2 [(0, .ref (ad 0 0)), (1, .int a1)] := hl
  generalize hH : s.heap = H at hP ⊢
  replace hS : va_S A s.heap H [] := by rw [← hH]; exact hS
  generalize hlo : ([] : List Loc) = locs at hS ⊢
  obtain ⟨kLL, hK1⟩ := kApp hK
  obtain ⟨kS4, hK2⟩ := kApp hK1
  obtain ⟨kW5, hK3⟩ := kApp hK2
  obtain ⟨kH, hK4⟩ := kApp hK3
  obtain ⟨kO, hK5⟩ := kApp hK4
  obtain ⟨kW8, hK6⟩ := kApp hK5
  obtain ⟨kl, hK7⟩ := kApp hK6
  have k0 : va_K D vwCl [] s := vK_sub hK (fun q hq => absurd hq List.not_mem_nil)
  unfold f11_ruled at h
  refine lv_aload_n hx hb dX11_ruled_0 rfl (lv_at hl 0 rfl) ?_
  obtain ⟨w, hc, h⟩ := bnd1_el h
  obtain ⟨Lo, hLo⟩ : ∃ X : List (Nat × List (ClassId × FieldType) × va_W × va_W), X = [(0, tLL (cy 0), cLL (ad 0) (cy 0) (ad 1 0) (ad 2 0) (ad 3 0) rls (nn m) ((ad 4) 0) ims pst (nn nx) (nn c) (ad 6 0) (ad 7 0) (ad 9 0) (ad 10 0), cLL (ad 0) (cy 0) (ad 1 0) (ad 2 0) (ad 3 0) rls (nn m) ((ad 4) 0) ims pst (nn nx) (nn c) (ad 6 0) (ad 7 0) (ad 9 0) (ad 10 0)), (4, tSt (cy 4), cSt (ad 4) (cy 4) ((ad 5) 0) fo x notes nh nr nm md, cSt (ad 4) (cy 4) ((ad 5) 0) fo x notes nh nr nm md), (5, tW (cy 5), cW (ad 5) (cy 5) (lh 0) hour broken rung grip want slips worn, cW (ad 5) (cy 5) (lh 0) hour broken rung grip want slips worn), (jl, tLd ly, cLd lh ly ru pe sb ro str wt tol srr sww, cLd lh ly ru pe sb ro str wt tol srr sww)] := ⟨_, rfl⟩
  have hmo : Lo.map Prod.fst = [0, 4, 5, jl] := by rw [hLo]; rfl
  refine mbR_i (As := []) (rest := []) (bs' := oB bs m (cO (ad 7) (cy 7) o1 o2 o3 o4 fc ff o7 o8 o9 oa ob (ad 6 0) (ad 8 0) cr) (cH (ad 6) (cy 6) hbk wl de wo) (cW (ad 8) (cy 8) tq th tb tr tg tw ts tk) (fun j => cRu (ra j) (ry j) (ncF j) (codeF j) (nsF j) (seF j) (ntF j) (teF j) (stk j) (tps j))) Lo S k0 hP hD hS hA (c11_hasLadder (l := l) (D := D) (ad_this := (ad 0)) (cy_this := (cy 0)) (z_this_tape := (ad 1 0)) (z_this_ladderReader := (ad 2 0)) (z_this_ruleReader := (ad 3 0)) (z_this_rules := rls) (z_this_ruleCount := (nn m)) (z_this_images := ims) (z_this_past := pst) (z_this_pastNext := (nn nx)) (z_this_pastCount := (nn c)) (z_this_hours := (ad 6 0)) (z_this_outlook := (ad 7 0)) (z_this_paths := (ad 9 0)) (z_this_siege := (ad 10 0)) (ad_this_now := (ad 4)) (cy_this_now := (cy 4)) (z_this_now_force := fo) (z_this_now_x := x) (z_this_now_notes := notes) (z_this_now_noteHour := nh) (z_this_now_noteRung := nr) (z_this_now_noteMany := nm) (z_this_now_made := md) (ad_this_now_world := (ad 5)) (cy_this_now_world := (cy 5)) (z_this_now_world_hour := hour) (z_this_now_world_broken := broken) (z_this_now_world_rung := rung) (z_this_now_world_grip := grip) (z_this_now_world_want := want) (z_this_now_world_slips := slips) (z_this_now_world_worn := worn) (ad_this_now_world_ladder := lh) (cy_this_now_world_ladder := ly) (z_this_now_world_ladder_rungs := ru) (z_this_now_world_ladder_people := pe) (z_this_now_world_ladder_startBroken := sb) (z_this_now_world_ladder_room := ro) (z_this_now_world_ladder_strength := str) (z_this_now_world_ladder_weight := wt) (z_this_now_world_ladder_told := tol) (z_this_now_world_ladder_startRung := srr) (z_this_now_world_ladder_startWant := sww) (o_ret := w) hc) (by rw [hmo]; simp only [List.nodup_cons, List.mem_cons, List.not_mem_nil, or_false, not_or, List.nodup_nil, and_true, not_false_eq_true] <;> omega) (by rw [hLo]; exact List.forall_mem_cons.mpr ⟨show 0 < N by omega, List.forall_mem_cons.mpr ⟨show 4 < N by omega, List.forall_mem_cons.mpr ⟨show 5 < N by omega, List.forall_mem_cons.mpr ⟨show jl < N by omega, fun _ h9 => absurd h9 List.not_mem_nil⟩⟩⟩⟩) (by rw [hLo]; exact List.forall_mem_cons.mpr ⟨kLL, List.forall_mem_cons.mpr ⟨kS4, List.forall_mem_cons.mpr ⟨kW5, List.forall_mem_cons.mpr ⟨kl, fun _ h9 => absurd h9 List.not_mem_nil⟩⟩⟩⟩) (by rw [hLo]; exact List.forall_mem_cons.mpr ⟨(oB_ne (by omega) (by omega) (by omega) (by omega)).trans b0, List.forall_mem_cons.mpr ⟨(oB_ne (by omega) (by omega) (by omega) (by omega)).trans b4, List.forall_mem_cons.mpr ⟨(oB_ne (by omega) (by omega) (by omega) (by omega)).trans b5, List.forall_mem_cons.mpr ⟨(oB_ne (by omega) (by omega) (by omega) (by omega)).trans bl, fun _ h9 => absurd h9 List.not_mem_nil⟩⟩⟩⟩) (by rw [hLo]; rfl) (by rw [hLo]; simp only [List.flatMap_cons, List.flatMap_nil, List.append_nil, List.append_assoc]) (by rw [hLo]; simp only [List.flatMap_cons, List.flatMap_nil, List.append_nil, List.append_assoc]) (fun _ _ _ => rfl) (by rw [hLo]; exact List.forall_mem_cons.mpr ⟨(oB_ne (by omega) (by omega) (by omega) (by omega)).trans b0, List.forall_mem_cons.mpr ⟨(oB_ne (by omega) (by omega) (by omega) (by omega)).trans b4, List.forall_mem_cons.mpr ⟨(oB_ne (by omega) (by omega) (by omega) (by omega)).trans b5, List.forall_mem_cons.mpr ⟨(oB_ne (by omega) (by omega) (by omega) (by omega)).trans bl, fun _ h9 => absurd h9 List.not_mem_nil⟩⟩⟩⟩) (gdV mw_31_5 mw_31_6 mw_31_7 mw_1_2 mw_31_8) rfl rfl hd_f11_hasLadder ⟨Nat.le_of_ble_eq_true rfl, Nat.le_of_ble_eq_true rfl⟩ (ci := 11) (q0 := 0) rfl rfl rfl hl.1 rfl (Nat.le_of_ble_eq_true rfl) dX11_ruled_1 ⟨Nat.zero_le _, Nat.zero_le _⟩ (fun H locs hP hD hS => ?_)
  refine lv_if_eq (tgt := 16) hx hb dX11_ruled_4 rfl (fun c1 => ?_) (fun c1 => ?_)
  · replace h := ite_t c1 h
    cases h
    refine lv_bipush (v := (-3 : Int32)) hx hb dX11_ruled_16 (by decide) ?_
    exact hret tq _ _ _ _ _ hP hD hS rfl rfl dX11_ruled_18
  replace h := ite_f c1 h
  refine lv_iload_n hx hb dX11_ruled_7 rfl (lv_at hl 1 rfl) ?_
  refine lv_if_lt (tgt := 16) hx hb dX11_ruled_8 rfl (fun c2 => ?_) (fun c2 => ?_)
  · replace h := ite_t c2 h
    cases h
    refine lv_bipush (v := (-3 : Int32)) hx hb dX11_ruled_16 (by decide) ?_
    exact hret tq _ _ _ _ _ hP hD hS rfl rfl dX11_ruled_18
  replace h := ite_f c2 h
  refine lv_iload_n hx hb dX11_ruled_11 rfl (lv_at hl 1 rfl) ?_
  refine lv_iconst (v := (1 : Int32)) hx hb dX11_ruled_12 (by decide) ?_
  refine lv_icmp_le (tgt := 19) hx hb dX11_ruled_13 rfl (fun c3 => ?_) (fun c3 => ?_)
  rotate_left
  · replace h := ite_f c3 h
    cases h
    refine lv_bipush (v := (-3 : Int32)) hx hb dX11_ruled_16 (by decide) ?_
    exact hret tq _ _ _ _ _ hP hD hS rfl rfl dX11_ruled_18
  replace h := ite_t c3 h
  obtain ⟨fc2, ff2, cr2, hbk2, wl2, de2, wo2, th2, tb2, tr2, tg2, tw2, ts2, tk2, stk2, tps2, hc, h⟩ := bnd16_el h
  obtain ⟨w0, hP0, hD0, -⟩ := bk_out (j := 0) (by omega) ((oB_ne (by omega) (by omega) (by omega) (by omega)).trans b0) hP hD
  refine lv_aload_n hx hb dX11_ruled_19 rfl (lv_at hl 0 rfl) ?_
  refine va_get (ci := 11) (v := .ref (ad 7 0)) (C := RX11) (T := TX11) (N := 14) hx hb hts inlX11 hown kLL hP0 0 rfl rfl 11 (by decide) (hts _ mw_2_21) (fun _ h9 => h9) rfl dX11_ruled_20 ?_
  refine lv_aload_n hx hb dX11_ruled_23 rfl (lv_at hl 0 rfl) ?_
  refine va_get (ci := 11) (v := .ref (ad 4 0)) (C := RX11) (T := TX11) (N := 14) hx hb hts inlX11 hown kLL hP0 0 rfl rfl 5 (by decide) (hts _ mw_2_8) (fun _ h9 => h9) rfl dX11_ruled_24 ?_
  refine lv_aload_n hx hb dX11_ruled_27 rfl (lv_at hl 0 rfl) ?_
  refine va_get (ci := 11) (v := .ref (ad 0 1)) (C := RX11) (T := TX11) (N := 14) hx hb hts inlX11 hown kLL hP0 0 rfl rfl 3 (by decide) (hts _ mw_2_4) (fun _ h9 => h9) rfl dX11_ruled_28 ?_
  refine lv_aload_n hx hb dX11_ruled_31 rfl (lv_at hl 0 rfl) ?_
  refine va_get (ci := 11) (v := .int (nn m)) (C := RX11) (T := TX11) (N := 14) hx hb hts inlX11 hown kLL hP0 0 rfl rfl 4 (by decide) (hts _ mw_22_20) (fun _ h9 => h9) rfl dX11_ruled_32 ?_
  refine lv_iconst (v := (0 : Int32)) hx hb dX11_ruled_35 (by decide) ?_
  clear hP0 hD0
  obtain ⟨q0, hq0⟩ := bW_at (N := N) (j := 7) (bs := oB bs m (cO (ad 7) (cy 7) o1 o2 o3 o4 fc ff o7 o8 o9 oa ob (ad 6 0) (ad 8 0) cr) (cH (ad 6) (cy 6) hbk wl de wo) (cW (ad 8) (cy 8) tq th tb tr tg tw ts tk) (fun j => cRu (ra j) (ry j) (ncF j) (codeF j) (nsF j) (seF j) (ntF j) (teF j) (stk j) (tps j))) (by omega) (oB_7.trans (show cO (ad 7) (cy 7) o1 o2 o3 o4 fc ff o7 o8 o9 oa ob (ad 6 0) (ad 8 0) cr = _ :: _ from rfl))
  refine mdV_v (As := [.ref (ad 4 0), .ref (ad 0 1), .int (nn m), .int 0]) (rest := []) S hK hP hD hS hA (c3_tryRules (l := l) hN hm b0 b4 b5 g1 g2 bl hrl hc) (gdV mw_57_16 mw_57_17 mw_57_18 mw_2_20 mw_57_19) rfl rfl hd_f3_tryRules ⟨Nat.le_of_ble_eq_true rfl, Nat.le_of_ble_eq_true rfl⟩ (ci := 3) (q0 := q0) rfl hq0 rfl hl.1 rfl (Nat.le_of_ble_eq_true rfl) dX11_ruled_36 ⟨Nat.zero_le _, Nat.zero_le _⟩ (fun H locs hP hD hS => ?_)
  obtain ⟨w0, hP0, hD0, -⟩ := bk_out (j := 0) (by omega) ((oB_ne (by omega) (by omega) (by omega) (by omega)).trans b0) hP hD
  obtain ⟨w7, hP7, hD7, hbk7⟩ := bk_out (j := 7) (by omega) oB_7 hP hD
  refine lv_iload_n hx hb dX11_ruled_39 rfl (lv_at hl 1 rfl) ?_
  refine lv_if_ne (tgt := 53) hx hb dX11_ruled_40 rfl (fun c4 => ?_) (fun c4 => ?_)
  · replace h := ite_f c4 h
    cases h
    refine lv_aload_n hx hb dX11_ruled_53 rfl (lv_at hl 0 rfl) ?_
    refine va_get (ci := 11) (v := .ref (ad 7 0)) (C := RX11) (T := TX11) (N := 14) hx hb hts inlX11 hown kLL hP0 0 rfl rfl 11 (by decide) (hts _ mw_2_21) (fun _ h9 => h9) rfl dX11_ruled_54 ?_
    refine va_get (ci := 3) (v := .int v) (C := RX3) (T := TX3) (N := 14) hx hb hts inlX3 hown kO hP7 0 rfl rfl 5 (by decide) (hts _ mw_57_15) (fun _ h9 => h9) rfl dX11_ruled_57 ?_
    exact hret _ _ _ _ _ _ hP hD hS rfl rfl dX11_ruled_60
  · replace h := ite_t c4 h
    cases h
    refine lv_aload_n hx hb dX11_ruled_43 rfl (lv_at hl 0 rfl) ?_
    refine va_get (ci := 11) (v := .ref (ad 7 0)) (C := RX11) (T := TX11) (N := 14) hx hb hts inlX11 hown kLL hP0 0 rfl rfl 11 (by decide) (hts _ mw_2_21) (fun _ h9 => h9) rfl dX11_ruled_44 ?_
    refine va_get (ci := 3) (v := .int v) (C := RX3) (T := TX3) (N := 14) hx hb hts inlX3 hown kO hP7 0 rfl rfl 4 (by decide) (hts _ mw_57_14) (fun _ h9 => h9) rfl dX11_ruled_47 ?_
    refine lv_goto (tgt := 60) hx hb dX11_ruled_50 rfl ?_
    exact hret _ _ _ _ _ _ hP hD hS rfl rfl dX11_ruled_60
abbrev rm_f11_look : Room := { frames := 7, cells := 0, slots := 0, locals := 180 }
theorem hd_f11_look : yX11_look.cls = RX11 ∧ yX11_look.cls ≠ "java/lang/invoke/MethodHandle" ∧ yX11_look.cls ≠ "java/lang/invoke/VarHandle" ∧ (parseMethodDescriptor yX11_look.desc).map (fun d => d.parameters.length) = some 2 := by decide +kernel
set_option maxHeartbeats 8000000 in
set_option maxRecDepth 100000 in
theorem c11_look {l : Launch} {D : va_G} {N m nx c jl : Nat} {bs : Nat → va_W} {ad : Nat → Nat → Nat} {cy : Nat → Nat → ClassId} {ims pst rls : Nat → Option Nat} {lh : Nat → Nat} {ly : Nat → ClassId} {ra : Nat → Nat → Nat} {ry : Nat → Nat → ClassId} {o1 o2 o3 o4 o7 o8 o9 oa ob fo x notes md hour broken ru pe sb : Int32} {nh nr nm rung grip want slips worn ro str wt tol srr sww : Nat → Int32} {ncF nsF ntF : Nat → Nat} {codeF seF teF : Nat → Nat → Int32} {fc ff hbk th tb : Int32} {cr wl de tr tg tw ts tk tps : Nat → Int32} {wo : Nat → Int64} {stk : Nat → Nat → Int64} {tq : Nat} {v a1 a2 pr1 ma1 : Int32} {fc1 ff1 hbk1 th1 tb1 : Int32} {cr1 wl1 de1 tr1 tg1 tw1 ts1 tk1 tps1 : Nat → Int32} {wo1 : Nat → Int64} {stk1 : Nat → Nat → Int64} (hN : 46 < N) (hm : m ≤ 6) (b0 : bs 0 = cLL (ad 0) (cy 0) (ad 1 0) (ad 2 0) (ad 3 0) rls (nn m) (ad 4 0) ims pst (nn nx) (nn c) (ad 6 0) (ad 7 0) (ad 9 0) (ad 10 0)) (b4 : bs 4 = cSt (ad 4) (cy 4) (ad 5 0) fo x notes nh nr nm md) (b5 : bs 5 = cW (ad 5) (cy 5) (lh 0) hour broken rung grip want slips worn) (g1 : 47 ≤ jl) (g2 : jl < N) (bl : bs jl = cLd lh ly ru pe sb ro str wt tol srr sww) (hrl : ∀ j, j < m → rls j = some (ra j 0)) (h : f11_look rls (nn m) (fun j => ra j 0) ncF codeF nsF seF ntF teF stk tps notes nh nr nm ru pe sb ro str wt tol srr sww fc ff o7 o8 cr hbk wl de wo th tb tr tg tw ts tk a1 a2 = some (v, fc1, ff1, pr1, ma1, cr1, hbk1, wl1, de1, wo1, th1, tb1, tr1, tg1, tw1, ts1, tk1, stk1, tps1)) : MetIX l yX11_look cX11_look 3 (some .int) rm_f11_look D (tLL (cy 0) ++ (tSt (cy 4) ++ (tW (cy 5) ++ (tH (cy 6) ++ (tO (cy 7) ++ (tW (cy 8) ++ (tLd ly ++ (List.range m).flatMap (fun j => tRu (ry j))))))))) (bW N (oB bs m (cO (ad 7) (cy 7) o1 o2 o3 o4 fc ff o7 o8 o9 oa ob (ad 6 0) (ad 8 0) cr) (cH (ad 6) (cy 6) hbk wl de wo) (cW (ad 8) (cy 8) tq th tb tr tg tw ts tk) (fun j => cRu (ra j) (ry j) (ncF j) (codeF j) (nsF j) (seF j) (ntF j) (teF j) (stk j) (tps j)))) (fun kx => bW N (oB bs m (cO (ad 7) (cy 7) o1 o2 o3 o4 fc1 ff1 pr1 ma1 o9 oa ob (ad 6 0) (ad 8 0) cr1) (cH (ad 6) (cy 6) hbk1 wl1 de1 wo1) (cW (ad 8) (cy 8) kx th1 tb1 tr1 tg1 tw1 ts1 tk1) (fun j => cRu (ra j) (ry j) (ncF j) (codeF j) (nsF j) (seF j) (ntF j) (teF j) (stk1 j) (tps1 j)))) [.ref (ad 0 0), .int a1, .int a2] v := by
  refine metIX_of (own := RX11) rfl (by decide) (Nat.le_of_ble_eq_true rfl) ?_
  intro p e s m9 args below meth c9 A Q ls S hK hA hP hD hS hl hret
  obtain ⟨hx, hb, hml, hown, hts⟩ := id S
  replace hl : lv_has ls 3 [(0, .ref (ad 0 0)), (1, .int a1), (2, .int a2)] := hl
  generalize hH : s.heap = H at hP ⊢
  replace hS : va_S A s.heap H [] := by rw [← hH]; exact hS
  generalize hlo : ([] : List Loc) = locs at hS ⊢
  obtain ⟨kLL, hK1⟩ := kApp hK
  obtain ⟨kS4, hK2⟩ := kApp hK1
  obtain ⟨kW5, hK3⟩ := kApp hK2
  obtain ⟨kH, hK4⟩ := kApp hK3
  obtain ⟨kO, hK5⟩ := kApp hK4
  obtain ⟨kW8, hK6⟩ := kApp hK5
  obtain ⟨kl, hK7⟩ := kApp hK6
  have k0 : va_K D vwCl [] s := vK_sub hK (fun q hq => absurd hq List.not_mem_nil)
  unfold f11_look at h
  refine lv_aload_n hx hb dX11_look_0 rfl (lv_at hl 0 rfl) ?_
  obtain ⟨w, hc, h⟩ := bnd1_el h
  obtain ⟨Lo, hLo⟩ : ∃ X : List (Nat × List (ClassId × FieldType) × va_W × va_W), X = [(0, tLL (cy 0), cLL (ad 0) (cy 0) (ad 1 0) (ad 2 0) (ad 3 0) rls (nn m) ((ad 4) 0) ims pst (nn nx) (nn c) (ad 6 0) (ad 7 0) (ad 9 0) (ad 10 0), cLL (ad 0) (cy 0) (ad 1 0) (ad 2 0) (ad 3 0) rls (nn m) ((ad 4) 0) ims pst (nn nx) (nn c) (ad 6 0) (ad 7 0) (ad 9 0) (ad 10 0)), (4, tSt (cy 4), cSt (ad 4) (cy 4) ((ad 5) 0) fo x notes nh nr nm md, cSt (ad 4) (cy 4) ((ad 5) 0) fo x notes nh nr nm md), (5, tW (cy 5), cW (ad 5) (cy 5) (lh 0) hour broken rung grip want slips worn, cW (ad 5) (cy 5) (lh 0) hour broken rung grip want slips worn), (jl, tLd ly, cLd lh ly ru pe sb ro str wt tol srr sww, cLd lh ly ru pe sb ro str wt tol srr sww)] := ⟨_, rfl⟩
  have hmo : Lo.map Prod.fst = [0, 4, 5, jl] := by rw [hLo]; rfl
  refine mbR_i (As := []) (rest := []) (bs' := oB bs m (cO (ad 7) (cy 7) o1 o2 o3 o4 fc ff o7 o8 o9 oa ob (ad 6 0) (ad 8 0) cr) (cH (ad 6) (cy 6) hbk wl de wo) (cW (ad 8) (cy 8) tq th tb tr tg tw ts tk) (fun j => cRu (ra j) (ry j) (ncF j) (codeF j) (nsF j) (seF j) (ntF j) (teF j) (stk j) (tps j))) Lo S k0 hP hD hS hA (c11_hasLadder (l := l) (D := D) (ad_this := (ad 0)) (cy_this := (cy 0)) (z_this_tape := (ad 1 0)) (z_this_ladderReader := (ad 2 0)) (z_this_ruleReader := (ad 3 0)) (z_this_rules := rls) (z_this_ruleCount := (nn m)) (z_this_images := ims) (z_this_past := pst) (z_this_pastNext := (nn nx)) (z_this_pastCount := (nn c)) (z_this_hours := (ad 6 0)) (z_this_outlook := (ad 7 0)) (z_this_paths := (ad 9 0)) (z_this_siege := (ad 10 0)) (ad_this_now := (ad 4)) (cy_this_now := (cy 4)) (z_this_now_force := fo) (z_this_now_x := x) (z_this_now_notes := notes) (z_this_now_noteHour := nh) (z_this_now_noteRung := nr) (z_this_now_noteMany := nm) (z_this_now_made := md) (ad_this_now_world := (ad 5)) (cy_this_now_world := (cy 5)) (z_this_now_world_hour := hour) (z_this_now_world_broken := broken) (z_this_now_world_rung := rung) (z_this_now_world_grip := grip) (z_this_now_world_want := want) (z_this_now_world_slips := slips) (z_this_now_world_worn := worn) (ad_this_now_world_ladder := lh) (cy_this_now_world_ladder := ly) (z_this_now_world_ladder_rungs := ru) (z_this_now_world_ladder_people := pe) (z_this_now_world_ladder_startBroken := sb) (z_this_now_world_ladder_room := ro) (z_this_now_world_ladder_strength := str) (z_this_now_world_ladder_weight := wt) (z_this_now_world_ladder_told := tol) (z_this_now_world_ladder_startRung := srr) (z_this_now_world_ladder_startWant := sww) (o_ret := w) hc) (by rw [hmo]; simp only [List.nodup_cons, List.mem_cons, List.not_mem_nil, or_false, not_or, List.nodup_nil, and_true, not_false_eq_true] <;> omega) (by rw [hLo]; exact List.forall_mem_cons.mpr ⟨show 0 < N by omega, List.forall_mem_cons.mpr ⟨show 4 < N by omega, List.forall_mem_cons.mpr ⟨show 5 < N by omega, List.forall_mem_cons.mpr ⟨show jl < N by omega, fun _ h9 => absurd h9 List.not_mem_nil⟩⟩⟩⟩) (by rw [hLo]; exact List.forall_mem_cons.mpr ⟨kLL, List.forall_mem_cons.mpr ⟨kS4, List.forall_mem_cons.mpr ⟨kW5, List.forall_mem_cons.mpr ⟨kl, fun _ h9 => absurd h9 List.not_mem_nil⟩⟩⟩⟩) (by rw [hLo]; exact List.forall_mem_cons.mpr ⟨(oB_ne (by omega) (by omega) (by omega) (by omega)).trans b0, List.forall_mem_cons.mpr ⟨(oB_ne (by omega) (by omega) (by omega) (by omega)).trans b4, List.forall_mem_cons.mpr ⟨(oB_ne (by omega) (by omega) (by omega) (by omega)).trans b5, List.forall_mem_cons.mpr ⟨(oB_ne (by omega) (by omega) (by omega) (by omega)).trans bl, fun _ h9 => absurd h9 List.not_mem_nil⟩⟩⟩⟩) (by rw [hLo]; rfl) (by rw [hLo]; simp only [List.flatMap_cons, List.flatMap_nil, List.append_nil, List.append_assoc]) (by rw [hLo]; simp only [List.flatMap_cons, List.flatMap_nil, List.append_nil, List.append_assoc]) (fun _ _ _ => rfl) (by rw [hLo]; exact List.forall_mem_cons.mpr ⟨(oB_ne (by omega) (by omega) (by omega) (by omega)).trans b0, List.forall_mem_cons.mpr ⟨(oB_ne (by omega) (by omega) (by omega) (by omega)).trans b4, List.forall_mem_cons.mpr ⟨(oB_ne (by omega) (by omega) (by omega) (by omega)).trans b5, List.forall_mem_cons.mpr ⟨(oB_ne (by omega) (by omega) (by omega) (by omega)).trans bl, fun _ h9 => absurd h9 List.not_mem_nil⟩⟩⟩⟩) (gdV mw_31_5 mw_31_6 mw_31_7 mw_1_2 mw_31_8) rfl rfl hd_f11_hasLadder ⟨Nat.le_of_ble_eq_true rfl, Nat.le_of_ble_eq_true rfl⟩ (ci := 11) (q0 := 0) rfl rfl rfl hl.1 rfl (Nat.le_of_ble_eq_true rfl) dX11_look_1 ⟨Nat.zero_le _, Nat.zero_le _⟩ (fun H locs hP hD hS => ?_)
  refine lv_if_eq (tgt := 26) hx hb dX11_look_4 rfl (fun c1 => ?_) (fun c1 => ?_)
  · replace h := ite_t c1 h
    cases h
    refine lv_iconst (v := (-1 : Int32)) hx hb dX11_look_26 (by decide) ?_
    exact hret tq _ _ _ _ _ hP hD hS rfl rfl dX11_look_27
  replace h := ite_f c1 h
  refine lv_iload_n hx hb dX11_look_7 rfl (lv_at hl 1 rfl) ?_
  refine lv_if_lt (tgt := 26) hx hb dX11_look_8 rfl (fun c2 => ?_) (fun c2 => ?_)
  · replace h := ite_t c2 h
    cases h
    refine lv_iconst (v := (-1 : Int32)) hx hb dX11_look_26 (by decide) ?_
    exact hret tq _ _ _ _ _ hP hD hS rfl rfl dX11_look_27
  replace h := ite_f c2 h
  refine lv_iload_n hx hb dX11_look_11 rfl (lv_at hl 1 rfl) ?_
  refine lv_bipush (v := (60 : Int32)) hx hb dX11_look_12 (by decide) ?_
  refine lv_icmp_gt (tgt := 26) hx hb dX11_look_14 rfl (fun c4 => ?_) (fun c4 => ?_)
  · replace h := ite_t c4 h
    cases h
    refine lv_iconst (v := (-1 : Int32)) hx hb dX11_look_26 (by decide) ?_
    exact hret tq _ _ _ _ _ hP hD hS rfl rfl dX11_look_27
  replace h := ite_f c4 h
  refine lv_iload_n hx hb dX11_look_17 rfl (lv_at hl 2 rfl) ?_
  refine lv_if_lt (tgt := 26) hx hb dX11_look_18 rfl (fun c5 => ?_) (fun c5 => ?_)
  · replace h := ite_t c5 h
    cases h
    refine lv_iconst (v := (-1 : Int32)) hx hb dX11_look_26 (by decide) ?_
    exact hret tq _ _ _ _ _ hP hD hS rfl rfl dX11_look_27
  replace h := ite_f c5 h
  refine lv_iload_n hx hb dX11_look_21 rfl (lv_at hl 2 rfl) ?_
  refine lv_iconst (v := (1 : Int32)) hx hb dX11_look_22 (by decide) ?_
  refine lv_icmp_le (tgt := 28) hx hb dX11_look_23 rfl (fun c3 => ?_) (fun c3 => ?_)
  rotate_left
  · replace h := ite_f c3 h
    cases h
    refine lv_iconst (v := (-1 : Int32)) hx hb dX11_look_26 (by decide) ?_
    exact hret tq _ _ _ _ _ hP hD hS rfl rfl dX11_look_27
  replace h := ite_t c3 h
  obtain ⟨fc2, ff2, cr2, hbk2, wl2, de2, wo2, th2, tb2, tr2, tg2, tw2, ts2, tk2, stk2, tps2, hc, h⟩ := bnd16_el h
  obtain ⟨w0, hP0, hD0, -⟩ := bk_out (j := 0) (by omega) ((oB_ne (by omega) (by omega) (by omega) (by omega)).trans b0) hP hD
  refine lv_aload_n hx hb dX11_look_28 rfl (lv_at hl 0 rfl) ?_
  refine va_get (ci := 11) (v := .ref (ad 7 0)) (C := RX11) (T := TX11) (N := 14) hx hb hts inlX11 hown kLL hP0 0 rfl rfl 11 (by decide) (hts _ mw_2_21) (fun _ h9 => h9) rfl dX11_look_29 ?_
  refine lv_aload_n hx hb dX11_look_32 rfl (lv_at hl 0 rfl) ?_
  refine va_get (ci := 11) (v := .ref (ad 4 0)) (C := RX11) (T := TX11) (N := 14) hx hb hts inlX11 hown kLL hP0 0 rfl rfl 5 (by decide) (hts _ mw_2_8) (fun _ h9 => h9) rfl dX11_look_33 ?_
  refine lv_aload_n hx hb dX11_look_36 rfl (lv_at hl 0 rfl) ?_
  refine va_get (ci := 11) (v := .ref (ad 0 1)) (C := RX11) (T := TX11) (N := 14) hx hb hts inlX11 hown kLL hP0 0 rfl rfl 3 (by decide) (hts _ mw_2_4) (fun _ h9 => h9) rfl dX11_look_37 ?_
  refine lv_aload_n hx hb dX11_look_40 rfl (lv_at hl 0 rfl) ?_
  refine va_get (ci := 11) (v := .int (nn m)) (C := RX11) (T := TX11) (N := 14) hx hb hts inlX11 hown kLL hP0 0 rfl rfl 4 (by decide) (hts _ mw_22_20) (fun _ h9 => h9) rfl dX11_look_41 ?_
  refine lv_iload_n hx hb dX11_look_44 rfl (lv_at hl 1 rfl) ?_
  clear hP0 hD0
  obtain ⟨q0, hq0⟩ := bW_at (N := N) (j := 7) (bs := oB bs m (cO (ad 7) (cy 7) o1 o2 o3 o4 fc ff o7 o8 o9 oa ob (ad 6 0) (ad 8 0) cr) (cH (ad 6) (cy 6) hbk wl de wo) (cW (ad 8) (cy 8) tq th tb tr tg tw ts tk) (fun j => cRu (ra j) (ry j) (ncF j) (codeF j) (nsF j) (seF j) (ntF j) (teF j) (stk j) (tps j))) (by omega) (oB_7.trans (show cO (ad 7) (cy 7) o1 o2 o3 o4 fc ff o7 o8 o9 oa ob (ad 6 0) (ad 8 0) cr = _ :: _ from rfl))
  refine mdV_v (As := [.ref (ad 4 0), .ref (ad 0 1), .int (nn m), .int a1]) (rest := []) S hK hP hD hS hA (c3_tryRules (l := l) hN hm b0 b4 b5 g1 g2 bl hrl hc) (gdV mw_57_16 mw_57_17 mw_57_18 mw_2_20 mw_57_19) rfl rfl hd_f3_tryRules ⟨Nat.le_of_ble_eq_true rfl, Nat.le_of_ble_eq_true rfl⟩ (ci := 3) (q0 := q0) rfl hq0 rfl hl.1 rfl (Nat.le_of_ble_eq_true rfl) dX11_look_45 ⟨Nat.zero_le _, Nat.zero_le _⟩ (fun H locs hP hD hS => ?_)
  obtain ⟨w0, hP0, hD0, -⟩ := bk_out (j := 0) (by omega) ((oB_ne (by omega) (by omega) (by omega) (by omega)).trans b0) hP hD
  obtain ⟨w7, hP7, hD7, hbk7⟩ := bk_out (j := 7) (by omega) oB_7 hP hD
  refine lv_aload_n hx hb dX11_look_48 rfl (lv_at hl 0 rfl) ?_
  refine va_get (ci := 11) (v := .ref (ad 7 0)) (C := RX11) (T := TX11) (N := 14) hx hb hts inlX11 hown kLL hP0 0 rfl rfl 11 (by decide) (hts _ mw_2_21) (fun _ h9 => h9) rfl dX11_look_49 ?_
  refine va_get (ci := 3) (v := .int fc2) (C := RX3) (T := TX3) (N := 14) hx hb hts inlX3 hown kO hP7 0 rfl rfl 4 (by decide) (hts _ mw_57_14) (fun _ h9 => h9) rfl dX11_look_52 ?_
  refine lv_if_ne (tgt := 61) hx hb dX11_look_55 rfl (fun c4 => ?_) (fun c4 => ?_)
  rotate_left
  · replace h := ite_t c4 h
    cases h
    refine lv_bipush (v := (-2 : Int32)) hx hb dX11_look_58 (by decide) ?_
    exact hret _ _ _ _ _ _ hP hD hS rfl rfl dX11_look_60
  replace h := ite_f c4 h
  obtain ⟨pr2, ma2, hc2, h⟩ := bnd2_el h
  refine lv_aload_n hx hb dX11_look_61 rfl (lv_at hl 0 rfl) ?_
  refine va_get (ci := 11) (v := .ref (ad 7 0)) (C := RX11) (T := TX11) (N := 14) hx hb hts inlX11 hown kLL hP0 0 rfl rfl 11 (by decide) (hts _ mw_2_21) (fun _ h9 => h9) rfl dX11_look_62 ?_
  refine lv_aload_n hx hb dX11_look_65 rfl (lv_at hl 0 rfl) ?_
  refine va_get (ci := 11) (v := .ref (ad 4 0)) (C := RX11) (T := TX11) (N := 14) hx hb hts inlX11 hown kLL hP0 0 rfl rfl 5 (by decide) (hts _ mw_2_8) (fun _ h9 => h9) rfl dX11_look_66 ?_
  obtain ⟨w4, hP4, hD4, -⟩ := bk_out (j := 4) (by omega) ((oB_ne (by omega) (by omega) (by omega) (by omega)).trans b4) hP hD
  refine va_get (ci := 8) (v := .ref (ad 5 0)) (C := RX8) (T := TX8) (N := 8) hx hb hts inlX8 hown kS4 hP4 0 rfl rfl 0 (by decide) (hts _ mw_3_1) (fun _ h9 => h9) rfl dX11_look_69 ?_
  obtain ⟨w5, hP5, hD5, -⟩ := bk_out (j := 5) (by omega) ((oB_ne (by omega) (by omega) (by omega) (by omega)).trans b5) hP hD
  refine va_get (ci := 10) (v := .ref (lh 0)) (C := RX10) (T := TX10) (N := 8) hx hb hts inlX10 hown kW5 hP5 0 rfl rfl 0 (by decide) (hts _ mw_27_11) (fun _ h9 => h9) rfl dX11_look_72 ?_
  obtain ⟨wl9, hPl, hDl, -⟩ := bk_out (j := jl) (by omega) ((oB_ne (by omega) (by omega) (by omega) (by omega)).trans bl) hP hD
  refine va_get (ci := 1) (v := .int ru) (C := RX1) (T := TX1) (N := 9) hx hb hts inlX1 hown kl hPl 0 rfl rfl 0 (by decide) (hts _ mw_29_20) (fun _ h9 => h9) rfl dX11_look_75 ?_
  clear hP0 hD0 hP4 hD4 hP5 hD5 hPl hDl hP7 hD7 hbk7
  obtain ⟨Lp, hLp⟩ : ∃ X : List (Nat × List (ClassId × FieldType) × va_W × va_W), X = [(7, tO (cy 7), cO (ad 7) (cy 7) o1 o2 o3 o4 fc2 ff2 o7 o8 o9 oa ob (ad 6 0) (ad 8 0) cr2, cO (ad 7) (cy 7) o1 o2 o3 o4 fc2 ff2 pr2 ma2 o9 oa ob (ad 6 0) (ad 8 0) cr2)] := ⟨_, rfl⟩
  have hmp : Lp.map Prod.fst = [7] := by rw [hLp]; rfl
  refine mbR_v (As := [.int ru]) (rest := []) (bs' := oB bs m (cO (ad 7) (cy 7) o1 o2 o3 o4 fc2 ff2 pr2 ma2 o9 oa ob (ad 6 0) (ad 8 0) cr2) (cH (ad 6) (cy 6) hbk2 wl2 de2 wo2) (cW (ad 8) (cy 8) (lh 0) th2 tb2 tr2 tg2 tw2 ts2 tk2) (fun j => cRu (ra j) (ry j) (ncF j) (codeF j) (nsF j) (seF j) (ntF j) (teF j) (stk2 j) (tps2 j))) Lp S k0 hP hD hS hA (c3_findPartingRung (ad_this := (ad 7)) (cy_this := (cy 7)) (z_this_brokenRung := o1) (z_this_brokenHour := o2) (z_this_mendedRung := o3) (z_this_mendedHour := o4) (z_this_fittingCount := fc2) (z_this_firstFitting := ff2) (z_this_partingRung := o7) (z_this_mostAlike := o8) (z_this_windSlips := o9) (z_this_windFalls := oa) (z_this_windX := ob) (z_this_hours := (ad 6 0)) (z_this_trial := (ad 8 0)) (z_this_crowds := cr2) (a1 := ru) hc2) (by rw [hmp]; decide) (by rw [hLp]; exact List.forall_mem_cons.mpr ⟨show 7 < N by omega, fun _ h9 => absurd h9 List.not_mem_nil⟩) (by rw [hLp]; exact List.forall_mem_cons.mpr ⟨kO, fun _ h9 => absurd h9 List.not_mem_nil⟩) (by rw [hLp]; exact List.forall_mem_cons.mpr ⟨oB_7, fun _ h9 => absurd h9 List.not_mem_nil⟩) (by rw [hLp]; rfl) (by rw [hLp]; simp only [List.flatMap_cons, List.flatMap_nil, List.append_nil, List.append_assoc]) (by rw [hLp]; simp only [List.flatMap_cons, List.flatMap_nil, List.append_nil, List.append_assoc]) (fun j h8 hj => by
      rw [hmp] at hj
      simp only [List.mem_cons, List.not_mem_nil, or_false] at hj
      unfold oB
      rw [if_neg hj, if_neg hj]) (by rw [hLp]; exact List.forall_mem_cons.mpr ⟨oB_7, fun _ h9 => absurd h9 List.not_mem_nil⟩) (gdV mw_59_18 mw_59_19 mw_59_20 mw_2_20 mw_59_21) rfl rfl hd_f3_findPartingRung ⟨Nat.le_of_ble_eq_true rfl, Nat.le_of_ble_eq_true rfl⟩ (ci := 3) (q0 := 0) rfl rfl rfl hl.1 rfl (Nat.le_of_ble_eq_true rfl) dX11_look_78 ⟨Nat.zero_le _, Nat.zero_le _⟩ (fun H locs hP hD hS => ?_)
  obtain ⟨w0, hP0, hD0, -⟩ := bk_out (j := 0) (by omega) ((oB_ne (by omega) (by omega) (by omega) (by omega)).trans b0) hP hD
  obtain ⟨w7, hP7, hD7, hbk7⟩ := bk_out (j := 7) (by omega) oB_7 hP hD
  refine lv_iload_n hx hb dX11_look_81 rfl (lv_at hl 2 rfl) ?_
  refine lv_if_ne (tgt := 95) hx hb dX11_look_82 rfl (fun c6 => ?_) (fun c6 => ?_)
  · replace h := ite_f c6 h
    cases h
    refine lv_aload_n hx hb dX11_look_95 rfl (lv_at hl 0 rfl) ?_
    refine va_get (ci := 11) (v := .ref (ad 7 0)) (C := RX11) (T := TX11) (N := 14) hx hb hts inlX11 hown kLL hP0 0 rfl rfl 11 (by decide) (hts _ mw_2_21) (fun _ h9 => h9) rfl dX11_look_96 ?_
    refine va_get (ci := 3) (v := .int v) (C := RX3) (T := TX3) (N := 14) hx hb hts inlX3 hown kO hP7 0 rfl rfl 7 (by decide) (hts _ mw_59_17) (fun _ h9 => h9) rfl dX11_look_99 ?_
    exact hret _ _ _ _ _ _ hP hD hS rfl rfl dX11_look_102
  · replace h := ite_t c6 h
    cases h
    refine lv_aload_n hx hb dX11_look_85 rfl (lv_at hl 0 rfl) ?_
    refine va_get (ci := 11) (v := .ref (ad 7 0)) (C := RX11) (T := TX11) (N := 14) hx hb hts inlX11 hown kLL hP0 0 rfl rfl 11 (by decide) (hts _ mw_2_21) (fun _ h9 => h9) rfl dX11_look_86 ?_
    refine va_get (ci := 3) (v := .int v) (C := RX3) (T := TX3) (N := 14) hx hb hts inlX3 hown kO hP7 0 rfl rfl 6 (by decide) (hts _ mw_59_16) (fun _ h9 => h9) rfl dX11_look_89 ?_
    refine lv_goto (tgt := 102) hx hb dX11_look_92 rfl ?_
    exact hret _ _ _ _ _ _ hP hD hS rfl rfl dX11_look_102
