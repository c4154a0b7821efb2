/-! tryRules over blocks -/
section
variable {D : va_G} {A : Nat → Prop} {H : Heap}
theorem bk_out {N j : Nat} {bs : Nat → va_W} {w : va_W} (hj : j < N) (hw : bs j = w) (hP : va_P D vwCl (bW N bs) H) (hD : va_D A (bW N bs)) : ∃ wr, va_P D vwCl (w ++ wr) H ∧ va_D A (w ++ wr) ∧ ∀ (w' : va_W) (H' : Heap), va_P D vwCl (w' ++ wr) H' → va_D A (w' ++ wr) → va_P D vwCl (bW N (bset bs j w')) H' ∧ va_D A (bW N (bset bs j w')) := by
  obtain ⟨wr, hp1, hp2⟩ := blk_perm2 (bs := bs) (N := N) (is := [j]) (List.nodup_cons.mpr ⟨List.not_mem_nil, List.nodup_nil⟩) (fun i hi => by rw [List.mem_singleton.mp hi]; exact hj)
  rw [List.flatMap_cons, List.flatMap_nil, List.append_nil, hw] at hp1
  refine ⟨wr, vP_perm hP hp1, vD_perm hD hp1, fun w' H' h1 h2 => ?_⟩
  have h3 := hp2 (bset bs j w') (fun i _ hi => bset_ne (fun q => hi (by rw [q]; exact List.mem_singleton.mpr rfl)))
  rw [List.flatMap_cons, List.flatMap_nil, List.append_nil, bset_at] at h3
  exact ⟨vP_perm h1 (List.perm_append_comm.trans h3), vD_perm h2 (List.perm_append_comm.trans h3)⟩
def oB (bs : Nat → va_W) (m : Nat) (wO wH wT : va_W) (wR : Nat → va_W) : Nat → va_W := fun i => if i = 7 then wO else if i = 6 then wH else if i = 8 then wT else if 40 ≤ i ∧ i < 40 + m then wR (i - 40) else bs i
variable {bs : Nat → va_W} {m : Nat} {wO wH wT wO' wH' wT' : va_W} {wR wR' : Nat → va_W}
theorem oB_7 : oB bs m wO wH wT wR 7 = wO := if_pos rfl
theorem oB_6 : oB bs m wO wH wT wR 6 = wH := (if_neg (by omega)).trans (if_pos rfl)
theorem oB_8 : oB bs m wO wH wT wR 8 = wT := (if_neg (by omega)).trans ((if_neg (by omega)).trans (if_pos rfl))
theorem oB_ne {j : Nat} (h7 : j ≠ 7) (h6 : j ≠ 6) (h8 : j ≠ 8) (hr : ¬ (40 ≤ j ∧ j < 40 + m)) : oB bs m wO wH wT wR j = bs j := (if_neg h7).trans ((if_neg h6).trans ((if_neg h8).trans (if_neg hr)))
theorem oB_r {k : Nat} (hk : k < m) : oB bs m wO wH wT wR (40 + k) = wR k := by
  have e : oB bs m wO wH wT wR (40 + k) = wR (40 + k - 40) := (if_neg (by omega)).trans ((if_neg (by omega)).trans ((if_neg (by omega)).trans (if_pos ⟨by omega, by omega⟩)))
  rw [e, Nat.add_sub_cancel_left]
theorem oB_off {j : Nat} (h7 : j ≠ 7) (h6 : j ≠ 6) (h8 : j ≠ 8) (hR : ∀ k, k < m → j = 40 + k → wR' k = wR k) : oB bs m wO' wH' wT' wR' j = oB bs m wO wH wT wR j := by
  by_cases h : 40 ≤ j ∧ j < 40 + m
  · obtain ⟨k, rfl⟩ : ∃ k, j = 40 + k := ⟨j - 40, by omega⟩
    rw [oB_r (by omega), oB_r (by omega), hR k (by omega) rfl]
  · rw [oB_ne h7 h6 h8 h, oB_ne h7 h6 h8 h]
theorem oB_set7 {w : va_W} : bset (oB bs m wO wH wT wR) 7 w = oB bs m w wH wT wR := by
  funext j
  by_cases h : j = 7
  · rw [h, bset_at, oB_7]
  · rw [bset_ne h]
    unfold oB
    rw [if_neg h, if_neg h]
theorem oB_id (h7 : bs 7 = wO) (h6 : bs 6 = wH) (h8 : bs 8 = wT) (hR : ∀ k, k < m → bs (40 + k) = wR k) : oB bs m wO wH wT wR = bs := by
  funext j
  by_cases h7' : j = 7
  · rw [h7', oB_7, h7]
  by_cases h6' : j = 6
  · rw [h6', oB_6, h6]
  by_cases h8' : j = 8
  · rw [h8', oB_8, h8]
  by_cases h : 40 ≤ j ∧ j < 40 + m
  · obtain ⟨k, rfl⟩ : ∃ k, j = 40 + k := ⟨j - 40, by omega⟩
    rw [oB_r (by omega), hR k (by omega)]
  · exact oB_ne h7' h6' h8' h
theorem kApp {a b : List (ClassId × FieldType)} {s : State} (h : va_K D vwCl (a ++ b) s) : va_K D vwCl a s ∧ va_K D vwCl b s := ⟨vK_sub h (fun q hq => List.mem_append_left _ hq), vK_sub h (fun q hq => List.mem_append_right _ hq)⟩
end
section
variable {p : Program} {l : Launch} {e : Env} {R : Room} {s : State} {m : MethodId} {args : Array Value} {below : List Frame} {meth : Method} {c : Code} {H : Heap} {locs : List Loc} {Q : State → Prop} {cells slots : Nat}
variable {cc : ByteArray} {pc : Nat} {ls : Array Slot} {rest st0 : List Value} {D : va_G} {A : Nat → Prop} {own C : String} {nL n index maxL b : Nat} {y : MethodName} {bytes : ByteArray} {ret : Option FieldType} {rm : Room} {As : List Value}
theorem mbR_i {r : Int32} {N : Nat} {bs : Nat → va_W} (L : List (Nat × List (ClassId × FieldType) × va_W × va_W)) (S : CallFix p m c cc nL s args wsL_law own) (hK : va_K D vwCl [] s) (hP : va_P D vwCl (bW N bs) H) (hD : va_D A (bW N bs)) (hS : va_S A s.heap H locs) (hA : ∀ q, s.heap.size ≤ q → A q)
    {tysC : List (ClassId × FieldType)} {wc w1 : va_W} (hM : MetI l y bytes maxL ret rm D tysC wc w1 (.ref b :: As) r) (hn9 : (L.map Prod.fst).Nodup) (hs9 : ∀ x ∈ L, x.1 < N) (hKL : ∀ x ∈ L, va_K D vwCl x.2.1 s) (hB : ∀ x ∈ L, bs x.1 = x.2.2.1) (hT : L.flatMap (fun x => x.2.1) = tysC) (hC : L.flatMap (fun x => x.2.2.1) = wc) (h1 : L.flatMap (fun x => x.2.2.2) = w1) {bs' : Nat → va_W} (he9 : ∀ j, j < N → j ∉ L.map Prod.fst → bs' j = bs j) (hN9 : ∀ x ∈ L, bs' x.1 = x.2.2.2)
    (hg : GoodIn wsL_law (wsV own index C y (Cond.code y bytes maxL ret :: wsL_law))) (hrc : rm.cells = 0) (hrs : rm.slots = 0)
    (hd : y.cls = C ∧ y.cls ≠ "java/lang/invoke/MethodHandle" ∧ y.cls ≠ "java/lang/invoke/VarHandle" ∧ (parseMethodDescriptor y.desc).map (fun d => d.parameters.length) = some n) (hR : rm.frames + 1 ≤ R.frames ∧ 8 + (maxL + 11) + rm.locals ≤ R.locals)
    {ci q0 : Nat} {T : u_T} {N9 : Nat} {fs : List Value} (hc : vwCl[ci]? = some (C, T, N9)) (he : wc[q0]? = some (b, .inr (ci, fs)))
    (hn : As.length = n) (hl : ls.size = nL) (hst : st0 = As.reverse ++ .ref b :: rest) (hr8 : (rest.map fun v => v.category).sum ≤ 8) (hdg : decode cc pc = .ok (.invokevirtual index, 3))
    (hf : cells ≤ R.cells ∧ slots ≤ R.slots)
    (kk : ∀ (H1 : Heap) (locs1 : List Loc), va_P D vwCl (bW N (bs')) H1 → va_D A (bW N (bs')) → va_S A s.heap H1 locs1 → W p l e R s m args below meth c H1 locs1 cells slots Q (F0 m (pc + 3) ls (.int r :: rest))) : W p l e R s m args below meth c H locs cells slots Q (F0 m pc ls st0) := by
  obtain ⟨wr, hp1, hp2⟩ := blk_perm (bs := bs) (bs' := bs') (N := N) hn9 (fun i hi => by obtain ⟨x, hx, rfl⟩ := List.mem_map.mp hi; exact hs9 x hx) he9
  have hK1 := kL_all hK hKL
  rw [hT] at hK1
  rw [fmL_congr hB, hC] at hp1
  rw [fmL_congr hN9, h1] at hp2
  exact mgV_i (wr := wr) (wf := wr ++ w1) S hK1 (vP_perm hP hp1) (vD_perm hD hp1) hS hA hM (List.range tysC.length) (List.range wc.length) ((List.range wr.length).map (fun j => wc.length + j)) (List.range (wr ++ w1).length) (rg_fm _) (rg_map _ _) (rg_map2 _ _) (rg_nd _) (rg_nd2 _ _) (rg_dis _ _) (rg_all _) (rg_nd _) hg hrc hrs hd hR hc he hn hl hst hr8 hdg hf
    (fun H1 locs1 hP1 hD1 hS1 => kk H1 locs1 (vP_perm hP1 hp2) (vD_perm hD1 hp2) hS1)
theorem mbR_v {N : Nat} {bs : Nat → va_W} (L : List (Nat × List (ClassId × FieldType) × va_W × va_W)) (S : CallFix p m c cc nL s args wsL_law own) (hK : va_K D vwCl [] s) (hP : va_P D vwCl (bW N bs) H) (hD : va_D A (bW N bs)) (hS : va_S A s.heap H locs) (hA : ∀ q, s.heap.size ≤ q → A q)
    {tysC : List (ClassId × FieldType)} {wc w1 : va_W} (hM : MetV l y bytes maxL ret rm D tysC wc w1 (.ref b :: As)) (hn9 : (L.map Prod.fst).Nodup) (hs9 : ∀ x ∈ L, x.1 < N) (hKL : ∀ x ∈ L, va_K D vwCl x.2.1 s) (hB : ∀ x ∈ L, bs x.1 = x.2.2.1) (hT : L.flatMap (fun x => x.2.1) = tysC) (hC : L.flatMap (fun x => x.2.2.1) = wc) (h1 : L.flatMap (fun x => x.2.2.2) = w1) {bs' : Nat → va_W} (he9 : ∀ j, j < N → j ∉ L.map Prod.fst → bs' j = bs j) (hN9 : ∀ x ∈ L, bs' x.1 = x.2.2.2)
    (hg : GoodIn wsL_law (wsV own index C y (Cond.code y bytes maxL ret :: wsL_law))) (hrc : rm.cells = 0) (hrs : rm.slots = 0)
    (hd : y.cls = C ∧ y.cls ≠ "java/lang/invoke/MethodHandle" ∧ y.cls ≠ "java/lang/invoke/VarHandle" ∧ (parseMethodDescriptor y.desc).map (fun d => d.parameters.length) = some n) (hR : rm.frames + 1 ≤ R.frames ∧ 8 + (maxL + 11) + rm.locals ≤ R.locals)
    {ci q0 : Nat} {T : u_T} {N9 : Nat} {fs : List Value} (hc : vwCl[ci]? = some (C, T, N9)) (he : wc[q0]? = some (b, .inr (ci, fs)))
    (hn : As.length = n) (hl : ls.size = nL) (hst : st0 = As.reverse ++ .ref b :: rest) (hr8 : (rest.map fun v => v.category).sum ≤ 8) (hdg : decode cc pc = .ok (.invokevirtual index, 3))
    (hf : cells ≤ R.cells ∧ slots ≤ R.slots)
    (kk : ∀ (H1 : Heap) (locs1 : List Loc), va_P D vwCl (bW N (bs')) H1 → va_D A (bW N (bs')) → va_S A s.heap H1 locs1 → W p l e R s m args below meth c H1 locs1 cells slots Q (F0 m (pc + 3) ls rest)) : W p l e R s m args below meth c H locs cells slots Q (F0 m pc ls st0) := by
  obtain ⟨wr, hp1, hp2⟩ := blk_perm (bs := bs) (bs' := bs') (N := N) hn9 (fun i hi => by obtain ⟨x, hx, rfl⟩ := List.mem_map.mp hi; exact hs9 x hx) he9
  have hK1 := kL_all hK hKL
  rw [hT] at hK1
  rw [fmL_congr hB, hC] at hp1
  rw [fmL_congr hN9, h1] at hp2
  exact mgV_v (wr := wr) (wf := wr ++ w1) S hK1 (vP_perm hP hp1) (vD_perm hD hp1) hS hA hM (List.range tysC.length) (List.range wc.length) ((List.range wr.length).map (fun j => wc.length + j)) (List.range (wr ++ w1).length) (rg_fm _) (rg_map _ _) (rg_map2 _ _) (rg_nd _) (rg_nd2 _ _) (rg_dis _ _) (rg_all _) (rg_nd _) hg hrc hrs hd hR hc he hn hl hst hr8 hdg hf
    (fun H1 locs1 hP1 hD1 hS1 => kk H1 locs1 (vP_perm hP1 hp2) (vD_perm hD1 hp2) hS1)
end
abbrev rm_f3_tryRules : Room := { frames := 6, cells := 0, slots := 0, locals := 149 }
theorem hd_f3_tryRules : yX3_tryRules.cls = RX3 ∧ yX3_tryRules.cls ≠ "java/lang/invoke/MethodHandle" ∧ yX3_tryRules.cls ≠ "java/lang/invoke/VarHandle" ∧ (parseMethodDescriptor yX3_tryRules.desc).map (fun d => d.parameters.length) = some 4 := by decide +kernel
theorem m1_lt_nn {m : Nat} (hm : m < 2147483648) : (-1 : Int32) < nn m := by
  refine Int32.lt_iff_toInt_lt.mpr ?_
  have e1 : (-1 : Int32).toInt = -1 := by decide
  have e2 : (nn m).toInt = (m : Int) := Int32.toInt_ofNat_of_lt hm
  rw [e1, e2]
  omega
set_option maxHeartbeats 8000000 in
set_option maxRecDepth 100000 in
theorem c3_tryRules {l : Launch} {D : va_G} {N m nx c jl : Nat} {bs : Nat → va_W} {ad : Nat → Nat → Nat} {cy : Nat → Nat → ClassId} {ims pst rls : Nat → Option Nat} {lh : Nat → Nat} {ly : Nat → ClassId} {ra : Nat → Nat → Nat} {ry : Nat → Nat → ClassId} {o1 o2 o3 o4 o7 o8 o9 oa ob fo x notes md hour broken ru pe sb : Int32} {nh nr nm rung grip want slips worn ro str wt tol srr sww : Nat → Int32} {ncF nsF ntF : Nat → Nat} {codeF seF teF : Nat → Nat → Int32} {fc0 ff0 hbk th tb n : Int32} {cr wl de tr tg tw ts tk tps : Nat → Int32} {wo : Nat → Int64} {stk : Nat → Nat → Int64} {tq : Nat} {fc1 ff1 hbk1 th1 tb1 : Int32} {cr1 wl1 de1 tr1 tg1 tw1 ts1 tk1 tps1 : Nat → Int32} {wo1 : Nat → Int64} {stk1 : Nat → Nat → Int64} (hN : 46 < N) (hm : m ≤ 6) (b0 : bs 0 = cLL (ad 0) (cy 0) (ad 1 0) (ad 2 0) (ad 3 0) rls (nn m) (ad 4 0) ims pst (nn nx) (nn c) (ad 6 0) (ad 7 0) (ad 9 0) (ad 10 0)) (b4 : bs 4 = cSt (ad 4) (cy 4) (ad 5 0) fo x notes nh nr nm md) (b5 : bs 5 = cW (ad 5) (cy 5) (lh 0) hour broken rung grip want slips worn) (g1 : 47 ≤ jl) (g2 : jl < N) (bl : bs jl = cLd lh ly ru pe sb ro str wt tol srr sww) (hrl : ∀ j, j < m → rls j = some (ra j 0)) (h : f3_tryRules rls (nn m) (fun j => ra j 0) ncF codeF nsF seF ntF teF stk tps notes nh nr nm ru pe sb ro str wt tol srr sww cr hbk wl de wo th tb tr tg tw ts tk n = some (fc1, ff1, cr1, hbk1, wl1, de1, wo1, th1, tb1, tr1, tg1, tw1, ts1, tk1, stk1, tps1)) : MetV l yX3_tryRules cX3_tryRules 6 none rm_f3_tryRules D (tLL (cy 0) ++ (tSt (cy 4) ++ (tW (cy 5) ++ (tH (cy 6) ++ (tO (cy 7) ++ (tW (cy 8) ++ (tLd ly ++ (List.range m).flatMap (fun j => tRu (ry j))))))))) (bW N (oB bs m (cO (ad 7) (cy 7) o1 o2 o3 o4 fc0 ff0 o7 o8 o9 oa ob (ad 6 0) (ad 8 0) cr) (cH (ad 6) (cy 6) hbk wl de wo) (cW (ad 8) (cy 8) tq th tb tr tg tw ts tk) (fun j => cRu (ra j) (ry j) (ncF j) (codeF j) (nsF j) (seF j) (ntF j) (teF j) (stk j) (tps j)))) (bW N (oB bs m (cO (ad 7) (cy 7) o1 o2 o3 o4 fc1 ff1 o7 o8 o9 oa ob (ad 6 0) (ad 8 0) cr1) (cH (ad 6) (cy 6) hbk1 wl1 de1 wo1) (cW (ad 8) (cy 8) (lh 0) th1 tb1 tr1 tg1 tw1 ts1 tk1) (fun j => cRu (ra j) (ry j) (ncF j) (codeF j) (nsF j) (seF j) (ntF j) (teF j) (stk1 j) (tps1 j)))) [.ref (ad 7 0), .ref (ad 4 0), .ref (ad 0 1), .int (nn m), .int n] := by
  refine metV_of (own := RX3) rfl (by decide) (Nat.le_of_ble_eq_true rfl) ?_
  intro p e s m9 args below meth c9 A Q ls S hK hA hP hD hS hl hret
  obtain ⟨hx, hb, hml, hown, hts⟩ := id S
  replace hl : lv_has ls 6 [(0, .ref (ad 7 0)), (1, .ref (ad 4 0)), (2, .ref (ad 0 1)), (3, .int (nn m)), (4, .int n)] := hl
  generalize hH : s.heap = H at hP ⊢
  replace hS : va_S A s.heap H [] := by rw [← hH]; exact hS
  generalize hlo : ([] : List Loc) = locs at hS ⊢
  obtain ⟨kLL, hK1⟩ := kApp hK
  obtain ⟨kS4, hK2⟩ := kApp hK1
  obtain ⟨kW5, hK3⟩ := kApp hK2
  obtain ⟨kH, hK4⟩ := kApp hK3
  obtain ⟨kO, hK5⟩ := kApp hK4
  obtain ⟨kW8, hK6⟩ := kApp hK5
  obtain ⟨kl, hK7⟩ := kApp hK6
  have k0 : va_K D vwCl [] s := vK_sub hK (fun q hq => absurd hq List.not_mem_nil)
  have kru : ∀ j, j < m → va_K D vwCl (tRu (ry j)) s := fun j hj => vK_sub hK7 (fun q hq => List.mem_flatMap.mpr ⟨j, List.mem_range.mpr hj, hq⟩)
  refine lv_aload_n hx hb dX3_tryRules_0 rfl (lv_at hl 0 rfl) ?_
  refine lv_iconst (v := (0 : Int32)) hx hb dX3_tryRules_1 (by decide) ?_
  obtain ⟨wr, hP7, hD7, hbk9⟩ := bk_out (j := 7) (by omega) oB_7 hP hD
  refine va_put (ci := 3) (v := .int 0) (ty := .int) (C := RX3) (T := TX3) (N := 14) hx hb hts inlX3 tyX3 tyX3_ok nmX3 hown kO hP7 hD7 hS 0 rfl rfl 4 (by decide) (hts _ mw_57_20) (fun _ h9 => h9) rfl (by decide +kernel) rfl rfl (Nat.le_of_ble_eq_true rfl) dX3_tryRules_2 (fun H locs hP7 hD7 hS => ?_)
  replace hP7 : va_P D vwCl ((cO (ad 7) (cy 7) o1 o2 o3 o4 0 ff0 o7 o8 o9 oa ob (ad 6 0) (ad 8 0) cr) ++ wr) H := hP7
  replace hD7 : va_D A ((cO (ad 7) (cy 7) o1 o2 o3 o4 0 ff0 o7 o8 o9 oa ob (ad 6 0) (ad 8 0) cr) ++ wr) := hD7
  obtain ⟨hP, hD⟩ := hbk9 _ _ hP7 hD7
  rw [oB_set7] at hP hD
  refine lv_aload_n hx hb dX3_tryRules_5 rfl (lv_at hl 0 rfl) ?_
  refine lv_bipush (v := (-2 : Int32)) hx hb dX3_tryRules_6 (by decide) ?_
  obtain ⟨wr, hP7, hD7, hbk9⟩ := bk_out (j := 7) (by omega) oB_7 hP hD
  refine va_put (ci := 3) (v := .int (-2)) (ty := .int) (C := RX3) (T := TX3) (N := 14) hx hb hts inlX3 tyX3 tyX3_ok nmX3 hown kO hP7 hD7 hS 0 rfl rfl 5 (by decide) (hts _ mw_57_21) (fun _ h9 => h9) rfl (by decide +kernel) rfl rfl (Nat.le_of_ble_eq_true rfl) dX3_tryRules_8 (fun H locs hP7 hD7 hS => ?_)
  replace hP7 : va_P D vwCl ((cO (ad 7) (cy 7) o1 o2 o3 o4 0 (-2) o7 o8 o9 oa ob (ad 6 0) (ad 8 0) cr) ++ wr) H := hP7
  replace hD7 : va_D A ((cO (ad 7) (cy 7) o1 o2 o3 o4 0 (-2) o7 o8 o9 oa ob (ad 6 0) (ad 8 0) cr) ++ wr) := hD7
  obtain ⟨hP, hD⟩ := hbk9 _ _ hP7 hD7
  rw [oB_set7] at hP hD
  refine lv_iconst (v := (-1 : Int32)) hx hb dX3_tryRules_11 (by decide) ?_
  refine lv_istore (lv' := [(5, .int (-1)), (0, .ref (ad 7 0)), (1, .ref (ad 4 0)), (2, .ref (ad 0 1)), (3, .int (nn m)), (4, .int n)]) hx hb dX3_tryRules_12 hl (by decide) rfl (fun ls hl => ?_)
  have B14 : ∀ (fc ff : Int32) (cr : Nat → Int32) (hbk : Int32) (wl de : Nat → Int32) (wo : Nat → Int64) (tq : Nat) (th tb : Int32) (tr tg tw ts tk : Nat → Int32) (stk : Nat → Nat → Int64) (tps : Nat → Int32) (v : Int32) (r : (Int32 × Int32 × (Nat → Int32) × Int32 × (Nat → Int32) × (Nat → Int32) × (Nat → Int64) × Int32 × Int32 × (Nat → Int32) × (Nat → Int32) × (Nat → Int32) × (Nat → Int32) × (Nat → Int32) × (Nat → Nat → Int64) × (Nat → Int32) × Int32) ⊕ (Int32 × Int32 × (Nat → Int32) × Int32 × (Nat → Int32) × (Nat → Int32) × (Nat → Int64) × Int32 × Int32 × (Nat → Int32) × (Nat → Int32) × (Nat → Int32) × (Nat → Int32) × (Nat → Int32) × (Nat → Nat → Int64) × (Nat → Int32))) (H : Heap) (locs : List Loc) (ls : Array Slot), f3_tryRules_B rls (nn m) (fun j => ra j 0) ncF codeF nsF seF ntF teF notes nh nr nm ru pe sb ro str wt tol srr sww n (fc, ff, cr, hbk, wl, de, wo, th, tb, tr, tg, tw, ts, tk, stk, tps, v) = some r → va_P D vwCl (bW N (oB bs m (cO (ad 7) (cy 7) o1 o2 o3 o4 fc ff o7 o8 o9 oa ob (ad 6 0) (ad 8 0) cr) (cH (ad 6) (cy 6) hbk wl de wo) (cW (ad 8) (cy 8) tq th tb tr tg tw ts tk) (fun j => cRu (ra j) (ry j) (ncF j) (codeF j) (nsF j) (seF j) (ntF j) (teF j) (stk j) (tps j)))) H → va_D A (bW N (oB bs m (cO (ad 7) (cy 7) o1 o2 o3 o4 fc ff o7 o8 o9 oa ob (ad 6 0) (ad 8 0) cr) (cH (ad 6) (cy 6) hbk wl de wo) (cW (ad 8) (cy 8) tq th tb tr tg tw ts tk) (fun j => cRu (ra j) (ry j) (ncF j) (codeF j) (nsF j) (seF j) (ntF j) (teF j) (stk j) (tps j)))) → va_S A s.heap H locs → lv_has ls 6 [(5, .int v), (0, .ref (ad 7 0)), (1, .ref (ad 4 0)), (2, .ref (ad 0 1)), (3, .int (nn m)), (4, .int n)] → (∀ (fc' ff' : Int32) (cr' : Nat → Int32) (hbk' : Int32) (wl' de' : Nat → Int32) (wo' : Nat → Int64) (th' tb' : Int32) (tr' tg' tw' ts' tk' : Nat → Int32) (stk' : Nat → Nat → Int64) (tps' : Nat → Int32), r = .inl (fc', ff', cr', hbk', wl', de', wo', th', tb', tr', tg', tw', ts', tk', stk', tps', v + 1) → ∀ (H : Heap) (locs : List Loc) (ls : Array Slot), va_P D vwCl (bW N (oB bs m (cO (ad 7) (cy 7) o1 o2 o3 o4 fc' ff' o7 o8 o9 oa ob (ad 6 0) (ad 8 0) cr') (cH (ad 6) (cy 6) hbk' wl' de' wo') (cW (ad 8) (cy 8) (lh 0) th' tb' tr' tg' tw' ts' tk') (fun j => cRu (ra j) (ry j) (ncF j) (codeF j) (nsF j) (seF j) (ntF j) (teF j) (stk' j) (tps' j)))) H → va_D A (bW N (oB bs m (cO (ad 7) (cy 7) o1 o2 o3 o4 fc' ff' o7 o8 o9 oa ob (ad 6 0) (ad 8 0) cr') (cH (ad 6) (cy 6) hbk' wl' de' wo') (cW (ad 8) (cy 8) (lh 0) th' tb' tr' tg' tw' ts' tk') (fun j => cRu (ra j) (ry j) (ncF j) (codeF j) (nsF j) (seF j) (ntF j) (teF j) (stk' j) (tps' j)))) → va_S A s.heap H locs → lv_has ls 6 [(5, .int (v + 1)), (0, .ref (ad 7 0)), (1, .ref (ad 4 0)), (2, .ref (ad 0 1)), (3, .int (nn m)), (4, .int n)] → W p l e rm_f3_tryRules s m9 args below meth c9 H locs 0 0 Q (F0 m9 14 ls [])) → ((nn m ≤ v ∨ 6 ≤ v) → r = .inr (fc, ff, cr, hbk, wl, de, wo, th, tb, tr, tg, tw, ts, tk, stk, tps) → ∀ (H : Heap) (locs : List Loc) (ls : Array Slot), va_P D vwCl (bW N (oB bs m (cO (ad 7) (cy 7) o1 o2 o3 o4 fc ff o7 o8 o9 oa ob (ad 6 0) (ad 8 0) cr) (cH (ad 6) (cy 6) hbk wl de wo) (cW (ad 8) (cy 8) tq th tb tr tg tw ts tk) (fun j => cRu (ra j) (ry j) (ncF j) (codeF j) (nsF j) (seF j) (ntF j) (teF j) (stk j) (tps j)))) H → va_D A (bW N (oB bs m (cO (ad 7) (cy 7) o1 o2 o3 o4 fc ff o7 o8 o9 oa ob (ad 6 0) (ad 8 0) cr) (cH (ad 6) (cy 6) hbk wl de wo) (cW (ad 8) (cy 8) tq th tb tr tg tw ts tk) (fun j => cRu (ra j) (ry j) (ncF j) (codeF j) (nsF j) (seF j) (ntF j) (teF j) (stk j) (tps j)))) → va_S A s.heap H locs → W p l e rm_f3_tryRules s m9 args below meth c9 H locs 0 0 Q (F0 m9 83 ls [])) → W p l e rm_f3_tryRules s m9 args below meth c9 H locs 0 0 Q (F0 m9 14 ls []) := by
    intro fc ff cr hbk wl de wo tq th tb tr tg tw ts tk stk tps v r H locs ls h hP hD hS hl kl9 kx9
    unfold f3_tryRules_B at h
    dsimp only at h
    refine lv_iload hx hb dX3_tryRules_14 (lv_at hl 0 rfl) ?_
    refine lv_iload_n hx hb dX3_tryRules_16 rfl (lv_at hl 4 rfl) ?_
    refine lv_icmp_ge (tgt := 83) hx hb dX3_tryRules_17 rfl (fun c1 => ?_) (fun c1 => ?_)
    · replace h := ite_t c1 h
      exact kx9 (Or.inl c1) (Option.some.inj h).symm H locs ls hP hD hS
    replace h := ite_f c1 h
    refine lv_iload hx hb dX3_tryRules_20 (lv_at hl 0 rfl) ?_
    refine lv_aload_n hx hb dX3_tryRules_22 rfl (lv_at hl 3 rfl) ?_
    obtain ⟨w0, hP0, hD0, -⟩ := bk_out (j := 0) (by omega) ((oB_ne (by omega) (by omega) (by omega) (by omega)).trans b0) hP hD
    refine va_alen (v := (6 : Int32)) hx hb kLL hP0 1 0 rfl rfl rfl dX3_tryRules_23 ?_
    refine lv_icmp_ge (tgt := 83) hx hb dX3_tryRules_24 rfl (fun c2 => ?_) (fun c2 => ?_)
    · replace h := ite_t c2 h
      exact kx9 (Or.inr c2) (Option.some.inj h).symm H locs ls hP hD hS
    replace h := ite_f c2 h
    have J77 : ∀ (fc2 ff2 : Int32) (cr2 : Nat → Int32) (hbk2 : Int32) (wl2 de2 : Nat → Int32) (wo2 : Nat → Int64) (th2 tb2 : Int32) (tr2 tg2 tw2 ts2 tk2 : Nat → Int32) (stk2 : Nat → Nat → Int64) (tps2 : Nat → Int32) (H : Heap) (locs : List Loc) (ls : Array Slot), r = .inl (fc2, ff2, cr2, hbk2, wl2, de2, wo2, th2, tb2, tr2, tg2, tw2, ts2, tk2, stk2, tps2, v + 1) → va_P D vwCl (bW N (oB bs m (cO (ad 7) (cy 7) o1 o2 o3 o4 fc2 ff2 o7 o8 o9 oa ob (ad 6 0) (ad 8 0) cr2) (cH (ad 6) (cy 6) hbk2 wl2 de2 wo2) (cW (ad 8) (cy 8) (lh 0) th2 tb2 tr2 tg2 tw2 ts2 tk2) (fun j => cRu (ra j) (ry j) (ncF j) (codeF j) (nsF j) (seF j) (ntF j) (teF j) (stk2 j) (tps2 j)))) H → va_D A (bW N (oB bs m (cO (ad 7) (cy 7) o1 o2 o3 o4 fc2 ff2 o7 o8 o9 oa ob (ad 6 0) (ad 8 0) cr2) (cH (ad 6) (cy 6) hbk2 wl2 de2 wo2) (cW (ad 8) (cy 8) (lh 0) th2 tb2 tr2 tg2 tw2 ts2 tk2) (fun j => cRu (ra j) (ry j) (ncF j) (codeF j) (nsF j) (seF j) (ntF j) (teF j) (stk2 j) (tps2 j)))) → va_S A s.heap H locs → lv_has ls 6 [(5, .int v), (0, .ref (ad 7 0)), (1, .ref (ad 4 0)), (2, .ref (ad 0 1)), (3, .int (nn m)), (4, .int n)] → W p l e rm_f3_tryRules s m9 args below meth c9 H locs 0 0 Q (F0 m9 77 ls []) := by
      intro fc2 ff2 cr2 hbk2 wl2 de2 wo2 th2 tb2 tr2 tg2 tw2 ts2 tk2 stk2 tps2 H locs ls hr hP hD hS hl
      refine lv_iinc (v := v + 1) (lv' := [(5, .int (v + 1)), (0, .ref (ad 7 0)), (1, .ref (ad 4 0)), (2, .ref (ad 0 1)), (3, .int (nn m)), (4, .int n)]) hx hb dX3_tryRules_77 hl (k := 0) rfl rfl (by decide) rfl (fun ls hl => ?_)
      refine lv_goto (tgt := 14) hx hb dX3_tryRules_80 rfl ?_
      exact kl9 _ _ _ _ _ _ _ _ _ _ _ _ _ _ _ _ hr H locs ls hP hD hS hl
    have J48 : ∀ (w : Int32) (fc2 ff2 : Int32) (cr2 : Nat → Int32) (hbk2 : Int32) (wl2 de2 : Nat → Int32) (wo2 : Nat → Int64) (th2 tb2 : Int32) (tr2 tg2 tw2 ts2 tk2 : Nat → Int32) (stk2 : Nat → Nat → Int64) (tps2 : Nat → Int32) (H : Heap) (locs : List Loc) (ls : Array Slot), (if w = 0 then some (.inl (fc2, ff2, cr2, hbk2, wl2, de2, wo2, th2, tb2, tr2, tg2, tw2, ts2, tk2, stk2, tps2, v + 1)) else if fc2 = 0 then some (.inl (fc2 + 1, v, cr2, hbk2, wl2, de2, wo2, th2, tb2, tr2, tg2, tw2, ts2, tk2, stk2, tps2, v + 1)) else some (.inl (fc2 + 1, ff2, cr2, hbk2, wl2, de2, wo2, th2, tb2, tr2, tg2, tw2, ts2, tk2, stk2, tps2, v + 1))) = some r → va_P D vwCl (bW N (oB bs m (cO (ad 7) (cy 7) o1 o2 o3 o4 fc2 ff2 o7 o8 o9 oa ob (ad 6 0) (ad 8 0) cr2) (cH (ad 6) (cy 6) hbk2 wl2 de2 wo2) (cW (ad 8) (cy 8) (lh 0) th2 tb2 tr2 tg2 tw2 ts2 tk2) (fun j => cRu (ra j) (ry j) (ncF j) (codeF j) (nsF j) (seF j) (ntF j) (teF j) (stk2 j) (tps2 j)))) H → va_D A (bW N (oB bs m (cO (ad 7) (cy 7) o1 o2 o3 o4 fc2 ff2 o7 o8 o9 oa ob (ad 6 0) (ad 8 0) cr2) (cH (ad 6) (cy 6) hbk2 wl2 de2 wo2) (cW (ad 8) (cy 8) (lh 0) th2 tb2 tr2 tg2 tw2 ts2 tk2) (fun j => cRu (ra j) (ry j) (ncF j) (codeF j) (nsF j) (seF j) (ntF j) (teF j) (stk2 j) (tps2 j)))) → va_S A s.heap H locs → lv_has ls 6 [(5, .int v), (0, .ref (ad 7 0)), (1, .ref (ad 4 0)), (2, .ref (ad 0 1)), (3, .int (nn m)), (4, .int n)] → W p l e rm_f3_tryRules s m9 args below meth c9 H locs 0 0 Q (F0 m9 48 ls [.int w]) := by
      intro w fc2 ff2 cr2 hbk2 wl2 de2 wo2 th2 tb2 tr2 tg2 tw2 ts2 tk2 stk2 tps2 H locs ls h hP hD hS hl
      refine lv_if_ne (tgt := 54) hx hb dX3_tryRules_48 rfl (fun c3 => ?_) (fun c3 => ?_)
      · replace h := ite_f c3 h
        have J67 : ∀ (ff3 : Int32) (H : Heap) (locs : List Loc) (ls : Array Slot), r = .inl (fc2 + 1, ff3, cr2, hbk2, wl2, de2, wo2, th2, tb2, tr2, tg2, tw2, ts2, tk2, stk2, tps2, v + 1) → va_P D vwCl (bW N (oB bs m (cO (ad 7) (cy 7) o1 o2 o3 o4 fc2 ff3 o7 o8 o9 oa ob (ad 6 0) (ad 8 0) cr2) (cH (ad 6) (cy 6) hbk2 wl2 de2 wo2) (cW (ad 8) (cy 8) (lh 0) th2 tb2 tr2 tg2 tw2 ts2 tk2) (fun j => cRu (ra j) (ry j) (ncF j) (codeF j) (nsF j) (seF j) (ntF j) (teF j) (stk2 j) (tps2 j)))) H → va_D A (bW N (oB bs m (cO (ad 7) (cy 7) o1 o2 o3 o4 fc2 ff3 o7 o8 o9 oa ob (ad 6 0) (ad 8 0) cr2) (cH (ad 6) (cy 6) hbk2 wl2 de2 wo2) (cW (ad 8) (cy 8) (lh 0) th2 tb2 tr2 tg2 tw2 ts2 tk2) (fun j => cRu (ra j) (ry j) (ncF j) (codeF j) (nsF j) (seF j) (ntF j) (teF j) (stk2 j) (tps2 j)))) → va_S A s.heap H locs → lv_has ls 6 [(5, .int v), (0, .ref (ad 7 0)), (1, .ref (ad 4 0)), (2, .ref (ad 0 1)), (3, .int (nn m)), (4, .int n)] → W p l e rm_f3_tryRules s m9 args below meth c9 H locs 0 0 Q (F0 m9 67 ls []) := by
          intro ff3 H locs ls hr hP hD hS hl
          refine lv_aload_n hx hb dX3_tryRules_67 rfl (lv_at hl 1 rfl) ?_
          refine lv_dup hx hb dX3_tryRules_68 rfl ?_
          obtain ⟨wr, hP7, hD7, -⟩ := bk_out (j := 7) (by omega) oB_7 hP hD
          refine va_get (ci := 3) (v := .int fc2) (C := RX3) (T := TX3) (N := 14) hx hb hts inlX3 hown kO hP7 0 rfl rfl 4 (by decide) (hts _ mw_57_20) (fun _ h9 => h9) rfl dX3_tryRules_69 ?_
          clear hP7 hD7
          refine lv_iconst (v := (1 : Int32)) hx hb dX3_tryRules_72 (by decide) ?_
          refine lv_iadd hx hb dX3_tryRules_73 ?_
          obtain ⟨wr, hP7, hD7, hbk9⟩ := bk_out (j := 7) (by omega) oB_7 hP hD
          refine va_put (ci := 3) (v := .int (fc2 + 1)) (ty := .int) (C := RX3) (T := TX3) (N := 14) hx hb hts inlX3 tyX3 tyX3_ok nmX3 hown kO hP7 hD7 hS 0 rfl rfl 4 (by decide) (hts _ mw_57_20) (fun _ h9 => h9) rfl (by decide +kernel) rfl rfl (Nat.le_of_ble_eq_true rfl) dX3_tryRules_74 (fun H locs hP7 hD7 hS => ?_)
          replace hP7 : va_P D vwCl ((cO (ad 7) (cy 7) o1 o2 o3 o4 (fc2 + 1) ff3 o7 o8 o9 oa ob (ad 6 0) (ad 8 0) cr2) ++ wr) H := hP7
          replace hD7 : va_D A ((cO (ad 7) (cy 7) o1 o2 o3 o4 (fc2 + 1) ff3 o7 o8 o9 oa ob (ad 6 0) (ad 8 0) cr2) ++ wr) := hD7
          obtain ⟨hP, hD⟩ := hbk9 _ _ hP7 hD7
          rw [oB_set7] at hP hD
          exact J77 _ _ _ _ _ _ _ _ _ _ _ _ _ _ _ _ H locs ls hr hP hD hS hl
        refine lv_aload_n hx hb dX3_tryRules_54 rfl (lv_at hl 1 rfl) ?_
        obtain ⟨wr, hP7, hD7, -⟩ := bk_out (j := 7) (by omega) oB_7 hP hD
        refine va_get (ci := 3) (v := .int fc2) (C := RX3) (T := TX3) (N := 14) hx hb hts inlX3 hown kO hP7 0 rfl rfl 4 (by decide) (hts _ mw_57_20) (fun _ h9 => h9) rfl dX3_tryRules_55 ?_
        clear hP7 hD7
        refine lv_if_ne (tgt := 67) hx hb dX3_tryRules_58 rfl (fun c4 => ?_) (fun c4 => ?_)
        · replace h := ite_f c4 h
          exact J67 ff2 H locs ls (Option.some.inj h).symm hP hD hS hl
        · replace h := ite_t c4 h
          refine lv_aload_n hx hb dX3_tryRules_61 rfl (lv_at hl 1 rfl) ?_
          refine lv_iload hx hb dX3_tryRules_62 (lv_at hl 0 rfl) ?_
          obtain ⟨wr, hP7, hD7, hbk9⟩ := bk_out (j := 7) (by omega) oB_7 hP hD
          refine va_put (ci := 3) (v := .int v) (ty := .int) (C := RX3) (T := TX3) (N := 14) hx hb hts inlX3 tyX3 tyX3_ok nmX3 hown kO hP7 hD7 hS 0 rfl rfl 5 (by decide) (hts _ mw_57_21) (fun _ h9 => h9) rfl (by decide +kernel) rfl rfl (Nat.le_of_ble_eq_true rfl) dX3_tryRules_64 (fun H locs hP7 hD7 hS => ?_)
          replace hP7 : va_P D vwCl ((cO (ad 7) (cy 7) o1 o2 o3 o4 fc2 v o7 o8 o9 oa ob (ad 6 0) (ad 8 0) cr2) ++ wr) H := hP7
          replace hD7 : va_D A ((cO (ad 7) (cy 7) o1 o2 o3 o4 fc2 v o7 o8 o9 oa ob (ad 6 0) (ad 8 0) cr2) ++ wr) := hD7
          obtain ⟨hP, hD⟩ := hbk9 _ _ hP7 hD7
          rw [oB_set7] at hP hD
          exact J67 v H locs ls (Option.some.inj h).symm hP hD hS hl
      · replace h := ite_t c3 h
        refine lv_goto (tgt := 77) hx hb dX3_tryRules_51 rfl ?_
        exact J77 _ _ _ _ _ _ _ _ _ _ _ _ _ _ _ _ H locs ls (Option.some.inj h).symm hP hD hS hl
    refine lv_aload_n hx hb dX3_tryRules_27 rfl (lv_at hl 1 rfl) ?_
    refine lv_aload_n hx hb dX3_tryRules_28 rfl (lv_at hl 2 rfl) ?_
    refine lv_iload hx hb dX3_tryRules_29 (lv_at hl 0 rfl) ?_
    refine lv_iconst (v := (-1 : Int32)) hx hb dX3_tryRules_31 (by decide) ?_
    refine lv_icmp_ne (tgt := 39) hx hb dX3_tryRules_32 rfl (fun c3 => ?_) (fun c3 => ?_)
    · replace h := ite_f c3 h
      refine lv_aload_n hx hb dX3_tryRules_39 rfl (lv_at hl 3 rfl) ?_
      refine lv_iload hx hb dX3_tryRules_40 (lv_at hl 0 rfl) ?_
      obtain ⟨b3, h⟩ := bd_el h
      obtain ⟨hq4, h⟩ := bq_el h
      refine va_aldq hx hb kLL hP0 1 0 rfl rfl b3 dX3_tryRules_42 ?_
      rw [hq4]
      clear hP0 hD0
      refine W.eq (g2 := F0 m9 43 ls [.ref (ra (Int32.toNatClampNeg v) 0), .ref (ad 4 0), .ref (ad 7 0)]) rfl ?_
      refine lv_iload hx hb dX3_tryRules_43 (lv_at hl 5 rfl) ?_
      obtain ⟨k, hk⟩ : ∃ X, X = Int32.toNatClampNeg v := ⟨_, rfl⟩
      rw [← hk] at h ⊢
      have hkm : k < m := by
        obtain ⟨k2, e1, e2, e3⟩ := nn_rng (lo := 0) (hi := 6) (x := v) (by omega) (by omega) (fun q => b3 (Or.inl q)) (fun q => c2 (Int32.le_of_lt q))
        have e4 : k = k2 := by rw [hk, e3]; exact nn_nat (by omega)
        rw [e4]
        rcases Nat.lt_or_ge k2 m with q | q
        · exact q
        · exact absurd (by rw [e3]; exact nleT (by omega) (by omega) q) c1
      obtain ⟨w, cr2, hbk2, wl2, de2, wo2, th2, tb2, tr2, tg2, tw2, ts2, tk2, sk2, tp2, hc, h⟩ := bnd15_el h
      obtain ⟨Lo, hLo⟩ : ∃ X : List (Nat × List (ClassId × FieldType) × va_W × va_W), X = [(7, tO (cy 7), cO (ad 7) (cy 7) o1 o2 o3 o4 fc ff o7 o8 o9 oa ob ((ad 6) 0) ((ad 8) 0) cr, cO (ad 7) (cy 7) o1 o2 o3 o4 fc ff o7 o8 o9 oa ob ((ad 6) 0) ((ad 8) 0) cr2), (6, tH (cy 6), cH (ad 6) (cy 6) hbk wl de wo, cH (ad 6) (cy 6) hbk2 wl2 de2 wo2), (8, tW (cy 8), cW (ad 8) (cy 8) tq th tb tr tg tw ts tk, cW (ad 8) (cy 8) (lh 0) th2 tb2 tr2 tg2 tw2 ts2 tk2), (4, tSt (cy 4), cSt (ad 4) (cy 4) ((ad 5) 0) fo x notes nh nr nm md, cSt (ad 4) (cy 4) ((ad 5) 0) fo x notes nh nr nm md), (5, tW (cy 5), cW (ad 5) (cy 5) (lh 0) hour broken rung grip want slips worn, cW (ad 5) (cy 5) (lh 0) hour broken rung grip want slips worn), (jl, tLd ly, cLd lh ly ru pe sb ro str wt tol srr sww, cLd lh ly ru pe sb ro str wt tol srr sww), ((40 + k), tRu (ry k), cRu (ra k) (ry k) (ncF k) (codeF k) (nsF k) (seF k) (ntF k) (teF k) (stk k) (tps k), cRu (ra k) (ry k) (ncF k) (codeF k) (nsF k) (seF k) (ntF k) (teF k) sk2 tp2)] := ⟨_, rfl⟩
      have hmo : Lo.map Prod.fst = [7, 6, 8, 4, 5, jl, (40 + k)] := by rw [hLo]; rfl
      refine mbR_i (As := [.ref (ad 4 0), .ref (ra k 0), .int n]) (rest := []) (bs' := oB bs m (cO (ad 7) (cy 7) o1 o2 o3 o4 fc ff o7 o8 o9 oa ob (ad 6 0) (ad 8 0) cr2) (cH (ad 6) (cy 6) hbk2 wl2 de2 wo2) (cW (ad 8) (cy 8) (lh 0) th2 tb2 tr2 tg2 tw2 ts2 tk2) (fun j => cRu (ra j) (ry j) (ncF j) (codeF j) (nsF j) (seF j) (ntF j) (teF j) ((fun j => if j = k then sk2 else stk j) j) ((upd tps k tp2) j))) Lo S k0 hP hD hS hA (c3_fits (l := l) (D := D) (ad_this := (ad 7)) (cy_this := (cy 7)) (z_this_brokenRung := o1) (z_this_brokenHour := o2) (z_this_mendedRung := o3) (z_this_mendedHour := o4) (z_this_fittingCount := fc) (z_this_firstFitting := ff) (z_this_partingRung := o7) (z_this_mostAlike := o8) (z_this_windSlips := o9) (z_this_windFalls := oa) (z_this_windX := ob) (z_this_crowds := cr) (ad_this_hours := (ad 6)) (cy_this_hours := (cy 6)) (z_this_hours_brokenRung := hbk) (z_this_hours_will := wl) (z_this_hours_deed := de) (z_this_hours_words := wo) (ad_this_trial := (ad 8)) (cy_this_trial := (cy 8)) (z_this_trial_ladder := tq) (z_this_trial_hour := th) (z_this_trial_broken := tb) (z_this_trial_rung := tr) (z_this_trial_grip := tg) (z_this_trial_want := tw) (z_this_trial_slips := ts) (z_this_trial_worn := tk) (ad_a1 := (ad 4)) (cy_a1 := (cy 4)) (z_a1_force := fo) (z_a1_x := x) (z_a1_notes := notes) (z_a1_noteHour := nh) (z_a1_noteRung := nr) (z_a1_noteMany := nm) (z_a1_made := md) (ad_a1_world := (ad 5)) (cy_a1_world := (cy 5)) (z_a1_world_hour := hour) (z_a1_world_broken := broken) (z_a1_world_rung := rung) (z_a1_world_grip := grip) (z_a1_world_want := want) (z_a1_world_slips := slips) (z_a1_world_worn := worn) (ad_a1_world_ladder := lh) (cy_a1_world_ladder := ly) (z_a1_world_ladder_rungs := ru) (z_a1_world_ladder_people := pe) (z_a1_world_ladder_startBroken := sb) (z_a1_world_ladder_room := ro) (z_a1_world_ladder_strength := str) (z_a1_world_ladder_weight := wt) (z_a1_world_ladder_told := tol) (z_a1_world_ladder_startRung := srr) (z_a1_world_ladder_startWant := sww) (ad_a2 := (ra k)) (cy_a2 := (ry k)) (n_a2_code := (ncF k)) (z_a2_code := (codeF k)) (n_a2_sumEnd := (nsF k)) (z_a2_sumEnd := (seF k)) (n_a2_testEnd := (ntF k)) (z_a2_testEnd := (teF k)) (z_a2_stack := (stk k)) (z_a2_top := (tps k)) (a3 := n) (o_ret := w) (o_this_crowds := cr2) (o_this_hours_brokenRung := hbk2) (o_this_hours_will := wl2) (o_this_hours_deed := de2) (o_this_hours_words := wo2) (o_this_trial_hour := th2) (o_this_trial_broken := tb2) (o_this_trial_rung := tr2) (o_this_trial_grip := tg2) (o_this_trial_want := tw2) (o_this_trial_slips := ts2) (o_this_trial_worn := tk2) (o_a2_stack := sk2) (o_a2_top := tp2) hc) (by rw [hmo]; simp only [List.nodup_cons, List.mem_cons, List.not_mem_nil, or_false, not_or, List.nodup_nil, and_true, not_false_eq_true] <;> omega) (by rw [hLo]; exact List.forall_mem_cons.mpr ⟨show 7 < N by omega, List.forall_mem_cons.mpr ⟨show 6 < N by omega, List.forall_mem_cons.mpr ⟨show 8 < N by omega, List.forall_mem_cons.mpr ⟨show 4 < N by omega, List.forall_mem_cons.mpr ⟨show 5 < N by omega, List.forall_mem_cons.mpr ⟨show jl < N by omega, List.forall_mem_cons.mpr ⟨show (40 + k) < N by omega, fun _ h9 => absurd h9 List.not_mem_nil⟩⟩⟩⟩⟩⟩⟩) (by rw [hLo]; exact List.forall_mem_cons.mpr ⟨kO, List.forall_mem_cons.mpr ⟨kH, List.forall_mem_cons.mpr ⟨kW8, List.forall_mem_cons.mpr ⟨kS4, List.forall_mem_cons.mpr ⟨kW5, List.forall_mem_cons.mpr ⟨kl, List.forall_mem_cons.mpr ⟨(kru k hkm), fun _ h9 => absurd h9 List.not_mem_nil⟩⟩⟩⟩⟩⟩⟩) (by rw [hLo]; exact List.forall_mem_cons.mpr ⟨oB_7, List.forall_mem_cons.mpr ⟨oB_6, List.forall_mem_cons.mpr ⟨oB_8, List.forall_mem_cons.mpr ⟨(oB_ne (by omega) (by omega) (by omega) (by omega)).trans b4, List.forall_mem_cons.mpr ⟨(oB_ne (by omega) (by omega) (by omega) (by omega)).trans b5, List.forall_mem_cons.mpr ⟨(oB_ne (by omega) (by omega) (by omega) (by omega)).trans bl, List.forall_mem_cons.mpr ⟨oB_r hkm, fun _ h9 => absurd h9 List.not_mem_nil⟩⟩⟩⟩⟩⟩⟩) (by rw [hLo]; rfl) (by rw [hLo]; simp only [List.flatMap_cons, List.flatMap_nil, List.append_nil, List.append_assoc]) (by rw [hLo]; simp only [List.flatMap_cons, List.flatMap_nil, List.append_nil, List.append_assoc]) (fun j h8 hj => by
          rw [hmo] at hj
          simp only [List.mem_cons, List.not_mem_nil, or_false, not_or] at hj
          exact oB_off (by omega) (by omega) (by omega) (fun y hy q => by dsimp only; rw [if_neg (show y ≠ k by omega), upd_ne (show y ≠ k by omega)])) (by rw [hLo]; exact List.forall_mem_cons.mpr ⟨oB_7, List.forall_mem_cons.mpr ⟨oB_6, List.forall_mem_cons.mpr ⟨oB_8, List.forall_mem_cons.mpr ⟨(oB_ne (by omega) (by omega) (by omega) (by omega)).trans b4, List.forall_mem_cons.mpr ⟨(oB_ne (by omega) (by omega) (by omega) (by omega)).trans b5, List.forall_mem_cons.mpr ⟨(oB_ne (by omega) (by omega) (by omega) (by omega)).trans bl, List.forall_mem_cons.mpr ⟨(oB_r hkm).trans (by dsimp only; rw [if_pos rfl, upd_at]), fun _ h9 => absurd h9 List.not_mem_nil⟩⟩⟩⟩⟩⟩⟩) (gdV mw_57_22 mw_57_23 mw_58_0 mw_2_20 mw_58_1) rfl rfl hd_f3_fits ⟨Nat.le_of_ble_eq_true rfl, Nat.le_of_ble_eq_true rfl⟩ (ci := 3) (q0 := 0) rfl rfl rfl hl.1 rfl (Nat.le_of_ble_eq_true rfl) dX3_tryRules_45 ⟨Nat.zero_le _, Nat.zero_le _⟩ (fun H locs hP hD hS => ?_)
      exact J48 w fc ff cr2 hbk2 wl2 de2 wo2 th2 tb2 tr2 tg2 tw2 ts2 tk2 (fun j => if j = k then sk2 else stk j) (upd tps k tp2) H locs ls h hP hD hS hl
    · replace h := ite_t c3 h
      clear hP0 hD0
      refine lv_null hx hb dX3_tryRules_35 ?_
      refine lv_goto (tgt := 43) hx hb dX3_tryRules_36 rfl ?_
      refine lv_iload hx hb dX3_tryRules_43 (lv_at hl 5 rfl) ?_
      obtain ⟨w, cr2, hbk2, wl2, de2, th2, tb2, tr2, tg2, tw2, ts2, tk2, hc, h⟩ := bnd12_el h
      obtain ⟨Lo, hLo⟩ : ∃ X : List (Nat × List (ClassId × FieldType) × va_W × va_W), X = [(7, tO (cy 7), cO (ad 7) (cy 7) o1 o2 o3 o4 fc ff o7 o8 o9 oa ob ((ad 6) 0) ((ad 8) 0) cr, cO (ad 7) (cy 7) o1 o2 o3 o4 fc ff o7 o8 o9 oa ob ((ad 6) 0) ((ad 8) 0) cr2), (6, tH (cy 6), cH (ad 6) (cy 6) hbk wl de wo, cH (ad 6) (cy 6) hbk2 wl2 de2 wo), (8, tW (cy 8), cW (ad 8) (cy 8) tq th tb tr tg tw ts tk, cW (ad 8) (cy 8) (lh 0) th2 tb2 tr2 tg2 tw2 ts2 tk2), (4, tSt (cy 4), cSt (ad 4) (cy 4) ((ad 5) 0) fo x notes nh nr nm md, cSt (ad 4) (cy 4) ((ad 5) 0) fo x notes nh nr nm md), (5, tW (cy 5), cW (ad 5) (cy 5) (lh 0) hour broken rung grip want slips worn, cW (ad 5) (cy 5) (lh 0) hour broken rung grip want slips worn), (jl, tLd ly, cLd lh ly ru pe sb ro str wt tol srr sww, cLd lh ly ru pe sb ro str wt tol srr sww)] := ⟨_, rfl⟩
      have hmo : Lo.map Prod.fst = [7, 6, 8, 4, 5, jl] := by rw [hLo]; rfl
      refine mbR_i (As := [.ref (ad 4 0), .null, .int n]) (rest := []) (bs' := oB bs m (cO (ad 7) (cy 7) o1 o2 o3 o4 fc ff o7 o8 o9 oa ob (ad 6 0) (ad 8 0) cr2) (cH (ad 6) (cy 6) hbk2 wl2 de2 wo) (cW (ad 8) (cy 8) (lh 0) th2 tb2 tr2 tg2 tw2 ts2 tk2) (fun j => cRu (ra j) (ry j) (ncF j) (codeF j) (nsF j) (seF j) (ntF j) (teF j) (stk j) (tps j))) Lo S k0 hP hD hS hA (c3_fits_n (l := l) (D := D) (ad_this := (ad 7)) (cy_this := (cy 7)) (z_this_brokenRung := o1) (z_this_brokenHour := o2) (z_this_mendedRung := o3) (z_this_mendedHour := o4) (z_this_fittingCount := fc) (z_this_firstFitting := ff) (z_this_partingRung := o7) (z_this_mostAlike := o8) (z_this_windSlips := o9) (z_this_windFalls := oa) (z_this_windX := ob) (z_this_crowds := cr) (ad_this_hours := (ad 6)) (cy_this_hours := (cy 6)) (z_this_hours_brokenRung := hbk) (z_this_hours_will := wl) (z_this_hours_deed := de) (z_this_hours_words := wo) (ad_this_trial := (ad 8)) (cy_this_trial := (cy 8)) (z_this_trial_ladder := tq) (z_this_trial_hour := th) (z_this_trial_broken := tb) (z_this_trial_rung := tr) (z_this_trial_grip := tg) (z_this_trial_want := tw) (z_this_trial_slips := ts) (z_this_trial_worn := tk) (ad_a1 := (ad 4)) (cy_a1 := (cy 4)) (z_a1_force := fo) (z_a1_x := x) (z_a1_notes := notes) (z_a1_noteHour := nh) (z_a1_noteRung := nr) (z_a1_noteMany := nm) (z_a1_made := md) (ad_a1_world := (ad 5)) (cy_a1_world := (cy 5)) (z_a1_world_hour := hour) (z_a1_world_broken := broken) (z_a1_world_rung := rung) (z_a1_world_grip := grip) (z_a1_world_want := want) (z_a1_world_slips := slips) (z_a1_world_worn := worn) (ad_a1_world_ladder := lh) (cy_a1_world_ladder := ly) (z_a1_world_ladder_rungs := ru) (z_a1_world_ladder_people := pe) (z_a1_world_ladder_startBroken := sb) (z_a1_world_ladder_room := ro) (z_a1_world_ladder_strength := str) (z_a1_world_ladder_weight := wt) (z_a1_world_ladder_told := tol) (z_a1_world_ladder_startRung := srr) (z_a1_world_ladder_startWant := sww) (a3 := n) (o_ret := w) (o_this_crowds := cr2) (o_this_hours_brokenRung := hbk2) (o_this_hours_will := wl2) (o_this_hours_deed := de2) (o_this_trial_hour := th2) (o_this_trial_broken := tb2) (o_this_trial_rung := tr2) (o_this_trial_grip := tg2) (o_this_trial_want := tw2) (o_this_trial_slips := ts2) (o_this_trial_worn := tk2) hc) (by rw [hmo]; simp only [List.nodup_cons, List.mem_cons, List.not_mem_nil, or_false, not_or, List.nodup_nil, and_true, not_false_eq_true] <;> omega) (by rw [hLo]; exact List.forall_mem_cons.mpr ⟨show 7 < N by omega, List.forall_mem_cons.mpr ⟨show 6 < N by omega, List.forall_mem_cons.mpr ⟨show 8 < N by omega, List.forall_mem_cons.mpr ⟨show 4 < N by omega, List.forall_mem_cons.mpr ⟨show 5 < N by omega, List.forall_mem_cons.mpr ⟨show jl < N by omega, fun _ h9 => absurd h9 List.not_mem_nil⟩⟩⟩⟩⟩⟩) (by rw [hLo]; exact List.forall_mem_cons.mpr ⟨kO, List.forall_mem_cons.mpr ⟨kH, List.forall_mem_cons.mpr ⟨kW8, List.forall_mem_cons.mpr ⟨kS4, List.forall_mem_cons.mpr ⟨kW5, List.forall_mem_cons.mpr ⟨kl, fun _ h9 => absurd h9 List.not_mem_nil⟩⟩⟩⟩⟩⟩) (by rw [hLo]; exact List.forall_mem_cons.mpr ⟨oB_7, List.forall_mem_cons.mpr ⟨oB_6, List.forall_mem_cons.mpr ⟨oB_8, List.forall_mem_cons.mpr ⟨(oB_ne (by omega) (by omega) (by omega) (by omega)).trans b4, List.forall_mem_cons.mpr ⟨(oB_ne (by omega) (by omega) (by omega) (by omega)).trans b5, List.forall_mem_cons.mpr ⟨(oB_ne (by omega) (by omega) (by omega) (by omega)).trans bl, fun _ h9 => absurd h9 List.not_mem_nil⟩⟩⟩⟩⟩⟩) (by rw [hLo]; rfl) (by rw [hLo]; simp only [List.flatMap_cons, List.flatMap_nil, List.append_nil, List.append_assoc]) (by rw [hLo]; simp only [List.flatMap_cons, List.flatMap_nil, List.append_nil, List.append_assoc]) (fun j h8 hj => by
          rw [hmo] at hj
          simp only [List.mem_cons, List.not_mem_nil, or_false, not_or] at hj
          exact oB_off (by omega) (by omega) (by omega) (fun y hy q => rfl)) (by rw [hLo]; exact List.forall_mem_cons.mpr ⟨oB_7, List.forall_mem_cons.mpr ⟨oB_6, List.forall_mem_cons.mpr ⟨oB_8, List.forall_mem_cons.mpr ⟨(oB_ne (by omega) (by omega) (by omega) (by omega)).trans b4, List.forall_mem_cons.mpr ⟨(oB_ne (by omega) (by omega) (by omega) (by omega)).trans b5, List.forall_mem_cons.mpr ⟨(oB_ne (by omega) (by omega) (by omega) (by omega)).trans bl, fun _ h9 => absurd h9 List.not_mem_nil⟩⟩⟩⟩⟩⟩) (gdV mw_57_22 mw_57_23 mw_58_0 mw_2_20 mw_58_1) rfl rfl hd_f3_fits_n ⟨Nat.le_of_ble_eq_true rfl, Nat.le_of_ble_eq_true rfl⟩ (ci := 3) (q0 := 0) rfl rfl rfl hl.1 rfl (Nat.le_of_ble_eq_true rfl) dX3_tryRules_45 ⟨Nat.zero_le _, Nat.zero_le _⟩ (fun H locs hP hD hS => ?_)
      exact J48 w fc ff cr2 hbk2 wl2 de2 wo th2 tb2 tr2 tg2 tw2 ts2 tk2 stk tps H locs ls h hP hD hS hl
  have L14 : ∀ (k : Nat) (fc ff : Int32) (cr : Nat → Int32) (hbk : Int32) (wl de : Nat → Int32) (wo : Nat → Int64) (tq : Nat) (th tb : Int32) (tr tg tw ts tk : Nat → Int32) (stk : Nat → Nat → Int64) (tps : Nat → Int32) (v : Int32) (H : Heap) (locs : List Loc) (ls : Array Slot), iter (f3_tryRules_B rls (nn m) (fun j => ra j 0) ncF codeF nsF seF ntF teF notes nh nr nm ru pe sb ro str wt tol srr sww n) k (fc, ff, cr, hbk, wl, de, wo, th, tb, tr, tg, tw, ts, tk, stk, tps, v) = some (fc1, ff1, cr1, hbk1, wl1, de1, wo1, th1, tb1, tr1, tg1, tw1, ts1, tk1, stk1, tps1) → (tq = lh 0 ∨ v = -1) → va_P D vwCl (bW N (oB bs m (cO (ad 7) (cy 7) o1 o2 o3 o4 fc ff o7 o8 o9 oa ob (ad 6 0) (ad 8 0) cr) (cH (ad 6) (cy 6) hbk wl de wo) (cW (ad 8) (cy 8) tq th tb tr tg tw ts tk) (fun j => cRu (ra j) (ry j) (ncF j) (codeF j) (nsF j) (seF j) (ntF j) (teF j) (stk j) (tps j)))) H → va_D A (bW N (oB bs m (cO (ad 7) (cy 7) o1 o2 o3 o4 fc ff o7 o8 o9 oa ob (ad 6 0) (ad 8 0) cr) (cH (ad 6) (cy 6) hbk wl de wo) (cW (ad 8) (cy 8) tq th tb tr tg tw ts tk) (fun j => cRu (ra j) (ry j) (ncF j) (codeF j) (nsF j) (seF j) (ntF j) (teF j) (stk j) (tps j)))) → va_S A s.heap H locs → lv_has ls 6 [(5, .int v), (0, .ref (ad 7 0)), (1, .ref (ad 4 0)), (2, .ref (ad 0 1)), (3, .int (nn m)), (4, .int n)] → W p l e rm_f3_tryRules s m9 args below meth c9 H locs 0 0 Q (F0 m9 14 ls []) := by
    intro k
    induction k with
    | zero => intro fc ff cr hbk wl de wo tq th tb tr tg tw ts tk stk tps v H locs ls h; exact (iter_0 h).elim
    | succ k ih =>
      intro fc ff cr hbk wl de wo tq th tb tr tg tw ts tk stk tps v H locs ls h hq hP hD hS hl
      obtain ⟨r, hb9, hor⟩ := iter_el h
      refine B14 fc ff cr hbk wl de wo tq th tb tr tg tw ts tk stk tps v r H locs ls hb9 hP hD hS hl ?_ ?_
      · intro fc' ff' cr' hbk' wl' de' wo' th' tb' tr' tg' tw' ts' tk' stk' tps' er H locs ls hP hD hS hl
        subst er
        rcases hor with ⟨s', e', hi⟩ | e'
        · cases e'; exact ih _ _ _ _ _ _ _ _ _ _ _ _ _ _ _ _ _ _ H locs ls hi (Or.inl rfl) hP hD hS hl
        · cases e'
      · intro hc9 er H locs ls hP hD hS
        subst er
        have hq2 : tq = lh 0 := by
          rcases hq with q | q
          · exact q
          · subst q
            rcases hc9 with q | q
            · exact absurd q (Int32.not_le.mpr (m1_lt_nn (by omega)))
            · exact absurd q (by decide)
        subst hq2
        rcases hor with ⟨s', e', hi⟩ | e'
        · cases e'
        · cases e'; exact hret _ _ _ _ hP hD hS dX3_tryRules_83
  unfold f3_tryRules at h
  exact L14 FUEL _ _ _ _ _ _ _ _ _ _ _ _ _ _ _ _ _ _ H locs ls h (Or.inr rfl) hP hD hS hl
