section
variable {p : Program} {l : Launch} {e : Env} {R : Room} {s : State} {m : MethodId} {args : Array Value} {below : List Frame} {meth : Method} {c : Code} {H : Heap} {locs : List Loc} {Q : State → Prop} {cells slots mc ms : Nat}
variable {cc : ByteArray} {pc : Nat} {ls : Array Slot} {rest st0 : List Value} {D : va_G} {A : Nat → Prop} {tys tysC : List (ClassId × FieldType)} {ws wc wr : va_W} {own C : String} {nL n index maxL b : Nat} {y : MethodName} {bytes : ByteArray} {ret : Option FieldType} {rm : Room} {As : List Value} {Ev : State → Prop} {Z : va_W → List (ClassId × FieldType) → Nat → Prop}
theorem PreC_blind (hEb : ∀ (U : State) (g : JFrame) (mk : MethodId) (a : Array Value), Ev U → Ev (U.calling g mk a)) {sz : Nat} : FrameBlind (PreC D tysC wc sz As Ev) := fun a U g mk q => by
  obtain ⟨q0, q1, qP, qK, qD, qE⟩ := q
  exact ⟨q0, q1, qP, va_K.moved (u := U) (U := U.calling g mk a) (Vm.Alike.refl U.vm) qK, qD, hEb _ _ _ _ qE⟩
theorem mgN_S (S : CallFix p m c cc nL s args wsL_law own) (hK : va_K D vwCl tys s) (hP : va_P D vwCl ws H) (hD : va_D A ws) (hS : va_S A s.heap H locs) (hA : ∀ q, s.heap.size ≤ q → A q)
    (hM : MetN l y bytes maxL ret rm D tysC wc As Ev mc ms Z) (tC isC isR : List Nat) (hT : tC.filterMap (fun i => tys[i]?) = tysC) (hC : isC.map (fun i => ws[i]?) = wc.map some) (hRr : isR.map (fun i => ws[i]?) = wr.map some) (hnC : va_nd isC = true) (hnR : va_nd isR = true) (hdis : ∀ i ∈ isR, i ∉ isC)
    (hEb : ∀ (U : State) (g : JFrame) (mk : MethodId) (a : Array Value), Ev U → Ev (U.calling g mk a)) (hEw : ∀ U : State, s.WarmedH U.vm → Ev U)
    (hg : GoodIn wsL_law (va_wsS own index y (Cond.code y bytes maxL ret :: wsL_law))) (hrc : rm.cells = mc) (hrs : rm.slots = ms)
    (hd : y.cls ≠ "java/lang/invoke/MethodHandle" ∧ y.cls ≠ "java/lang/invoke/VarHandle" ∧ (parseMethodDescriptor y.desc).map (fun d => d.parameters.length) = some n) (hR : rm.frames + 1 ≤ R.frames ∧ 8 + (maxL + 11) + rm.locals ≤ R.locals)
    (hn : As.length = n) (hl : ls.size = nL) (hst : st0 = As.reverse ++ rest) (hr8 : (rest.map fun v => v.category).sum ≤ 8) (hdg : decode cc pc = .ok (.invokestatic index, 3)) (hf : cells + mc ≤ R.cells ∧ slots + ms ≤ R.slots)
    (kk : ∀ (w1 : va_W) (t1 : List (ClassId × FieldType)) (a : Nat) (H1 : Heap) (locs1 : List Loc), Z w1 t1 a → va_K D vwCl (tys ++ t1) s → va_P D vwCl (wr ++ w1) H1 → va_D A (wr ++ w1) → va_S A s.heap H1 locs1 → W p l e R s m args below meth c H1 locs1 (cells + mc) (slots + ms) Q (F0 m (pc + 3) ls (.ref a :: rest))) : W p l e R s m args below meth c H locs cells slots Q (F0 m pc ls st0) := by
  have hPc := hP.sub isC (fm_of hC)
  have hDc := hD.sub isC hnC hC
  have hKc := hK.sub tC hT
  have hFc := va_free hD hS hA isC hC
  refine va_callr (va_runS (As := As) (rest := rest) S (hM H.size) (va_cwS n S.2.2.2.2 hg rfl hrc hrs hd hR) ⟨PreC_blind hEb, fun U hU hW => ⟨rfl, by rw [hU], by rw [hU]; exact hPc, va_K.moved hW.alike hKc, hDc.weaken (fun _ _ _ _ => trivial), hEw U hW⟩⟩ rfl hn hl hst (lv_room hr8) hdg hf) hS (fun q _ h => hFc q h) hFc (fun u a t H1 locs1 ht hvm hw hB hz1 hk1 hS1 => ?_)
  obtain ⟨hZ, hP1, hK1, hD1⟩ := hB
  rw [ht] at hP1
  have hK1 := va_K.moved hvm.symm hK1
  obtain ⟨hP2, hD2⟩ := va_join hP hD isC isR hC hRr hnR hdis hk1 hFc hP1 hD1
  exact kk u.1 u.2 a H1 locs1 hZ (hK.app hK1) hP2 hD2 hS1
theorem mgN_V (S : CallFix p m c cc nL s args wsL_law own) (hK : va_K D vwCl tys s) (hP : va_P D vwCl ws H) (hD : va_D A ws) (hS : va_S A s.heap H locs) (hA : ∀ q, s.heap.size ≤ q → A q)
    (hM : MetN l y bytes maxL ret rm D tysC wc (.ref b :: As) Ev mc ms Z) (tC isC isR : List Nat) (hT : tC.filterMap (fun i => tys[i]?) = tysC) (hC : isC.map (fun i => ws[i]?) = wc.map some) (hRr : isR.map (fun i => ws[i]?) = wr.map some) (hnC : va_nd isC = true) (hnR : va_nd isR = true) (hdis : ∀ i ∈ isR, i ∉ isC)
    (hEb : ∀ (U : State) (g : JFrame) (mk : MethodId) (a : Array Value), Ev U → Ev (U.calling g mk a)) (hEw : ∀ U : State, s.WarmedH U.vm → Ev U)
    (hg : GoodIn wsL_law (wsV own index C y (Cond.code y bytes maxL ret :: wsL_law))) (hrc : rm.cells = mc) (hrs : rm.slots = ms)
    (hd : y.cls = C ∧ y.cls ≠ "java/lang/invoke/MethodHandle" ∧ y.cls ≠ "java/lang/invoke/VarHandle" ∧ (parseMethodDescriptor y.desc).map (fun d => d.parameters.length) = some n) (hR : rm.frames + 1 ≤ R.frames ∧ 8 + (maxL + 11) + rm.locals ≤ R.locals)
    {ci q0 : Nat} {T : u_T} {N : Nat} {fs : List Value} (hc : vwCl[ci]? = some (C, T, N)) (he : wc[q0]? = some (b, .inr (ci, fs)))
    (hn : As.length = n) (hl : ls.size = nL) (hst : st0 = As.reverse ++ .ref b :: rest) (hr8 : (rest.map fun v => v.category).sum ≤ 8) (hdg : decode cc pc = .ok (.invokevirtual index, 3)) (hf : cells + mc ≤ R.cells ∧ slots + ms ≤ R.slots)
    (kk : ∀ (w1 : va_W) (t1 : List (ClassId × FieldType)) (a : Nat) (H1 : Heap) (locs1 : List Loc), Z w1 t1 a → va_K D vwCl (tys ++ t1) s → va_P D vwCl (wr ++ w1) H1 → va_D A (wr ++ w1) → va_S A s.heap H1 locs1 → W p l e R s m args below meth c H1 locs1 (cells + mc) (slots + ms) Q (F0 m (pc + 3) ls (.ref a :: rest))) : W p l e R s m args below meth c H locs cells slots Q (F0 m pc ls st0) := by
  have hPc := hP.sub isC (fm_of hC)
  have hDc := hD.sub isC hnC hC
  have hKc := hK.sub tC hT
  have hFc := va_free hD hS hA isC hC
  refine va_callr (va_runV (As := As) (rest := rest) S (hM H.size) (cwV n S.2.2.2.2 hg rfl hrc hrs hd hR) ⟨PreC_blind hEb, va_recv hKc hPc hc he, fun U hU hW => ⟨rfl, by rw [hU], by rw [hU]; exact hPc, va_K.moved hW.alike hKc, hDc.weaken (fun _ _ _ _ => trivial), hEw U hW⟩⟩ rfl hn hl hst (lv_room hr8) hdg hf) hS (fun q _ h => hFc q h) hFc (fun u a t H1 locs1 ht hvm hw hB hz1 hk1 hS1 => ?_)
  obtain ⟨hZ, hP1, hK1, hD1⟩ := hB
  rw [ht] at hP1
  have hK1 := va_K.moved hvm.symm hK1
  obtain ⟨hP2, hD2⟩ := va_join hP hD isC isR hC hRr hnR hdis hk1 hFc hP1 hD1
  exact kk u.1 u.2 a H1 locs1 hZ (hK.app hK1) hP2 hD2 hS1
end
theorem EvC_blind (U : State) (g : JFrame) (mk : MethodId) (a : Array Value) (h : EvC U) : EvC (U.calling g mk a) := va_Nw.same (u := U) (U := U.calling g mk a) rfl rfl h
theorem EvC_warm {s : State} (h : EvC s) (U : State) (hW : s.WarmedH U.vm) : EvC U := va_Nw.warmC hW h
abbrev rm_f6_made : Room := { frames := 2, cells := 5, slots := 1269, locals := 90 }
theorem hd_f6_made : yX6_made.cls = RX6 ∧ yX6_made.cls ≠ "java/lang/invoke/MethodHandle" ∧ yX6_made.cls ≠ "java/lang/invoke/VarHandle" ∧ (parseMethodDescriptor yX6_made.desc).map (fun d => d.parameters.length) = some 0 := by decide +kernel
set_option maxHeartbeats 4000000 in
set_option maxRecDepth 100000 in
theorem c6_made {l : Launch} {D : va_G} {aR : Nat → Nat} {yR : Nat → ClassId} {tp sz nc : Nat} {code sumEnd testEnd : Nat → Int32} {vals : Int32} (hsz : sz ≤ 400) (hnc : nc ≤ 12) : MetN l yX6_made cX6_made 1 (some (.object "LadderLand$Rule")) rm_f6_made D [(yR 1, .int), (yR 2, .int), (yR 3, .int)] (cRR aR yR tp code sumEnd testEnd (nn sz) (nn nc) vals) [.ref (aR 0)] EvC 5 1269 (fun w t a => ∃ (L : List Nat) (cy : Nat → ClassId) (g1 g2 g3 : Nat → Int32), w = cRR aR yR tp code sumEnd testEnd (nn sz) (nn nc) vals ++ cRu (adOf a L) cy sz g1 nc g2 nc g3 (fun _ => (0 : Int64)) 0 ∧ t = [(cy 1, .int), (cy 2, .int), (cy 3, .int), (cy 4, .long)] ∧ (∀ i, i < sz → g1 i = code i) ∧ (∀ i, i < nc → g2 i = sumEnd i) ∧ ∀ i, i < nc → g3 i = testEnd i) := by
  refine metN_of (own := RX6) (Or.inl ⟨_, rfl⟩) rfl (by decide) (Nat.le_of_ble_eq_true rfl) ?_
  intro p e s m args below meth c A Q ls S hK hA hP hD hS hl hEv hret
  obtain ⟨hx, hb, hml, hown, hts⟩ := id S
  replace hl : lv_has ls 1 [(0, .ref (aR 0))] := hl
  generalize hH : s.heap = H at hP ⊢
  replace hS : va_S A s.heap H [] := by rw [← hH]; exact hS
  generalize hlo : ([] : List Loc) = locs at hS ⊢
  refine va_new (ci := 5) (fs := [.null, .null, .null, .null, .int 0]) (C := RX5) (T := TX5) (N := 5) hx hb hts inlX5 tyX5 tyX5_ok hown (hts _ mw_25_13) (hts _ mw_25_14) (hts _ mw_25_0) hK hP hD hS hA rfl (fun j hj => by rcases (show j = 0 ∨ j = 1 ∨ j = 2 ∨ j = 3 ∨ j = 4 by omega) with rfl | rfl | rfl | rfl | rfl <;> rfl) (Nat.le_of_ble_eq_true rfl) (Nat.le_of_ble_eq_true rfl) dX6_made_0 (fun q H hP hD hS => ?_)
  refine W.widen (k := 1) (n := 5) (Nat.le_refl _) (Nat.le_refl _) ?_
  replace hP : va_P D vwCl [(aR 0, .inr (6, [.ref tp, .ref (aR 1), .ref (aR 2), .ref (aR 3), .int (nn sz), .int (nn nc), .int vals])), (aR 1, .inl (yR 1, 400, .inl code)), (aR 2, .inl (yR 2, 12, .inl sumEnd)), (aR 3, .inl (yR 3, 12, .inl testEnd)), (q, .inr (5, [.null, .null, .null, .null, .int 0]))] H := hP
  replace hD : va_D A [(aR 0, .inr (6, [.ref tp, .ref (aR 1), .ref (aR 2), .ref (aR 3), .int (nn sz), .int (nn nc), .int vals])), (aR 1, .inl (yR 1, 400, .inl code)), (aR 2, .inl (yR 2, 12, .inl sumEnd)), (aR 3, .inl (yR 3, 12, .inl testEnd)), (q, .inr (5, [.null, .null, .null, .null, .int 0]))] := hD
  refine lv_dup hx hb dX6_made_3 rfl ?_
  refine lv_aload_n hx hb dX6_made_4 rfl (lv_at hl 0 rfl) ?_
  refine va_get (ci := 6) (v := .ref (aR 1)) (C := RX6) (T := TX6) (N := 7) hx hb hts inlX6 hown hK hP 0 rfl rfl 1 (by decide) (hts _ mw_4_11) (fun _ h9 => h9) rfl dX6_made_5 ?_
  refine lv_aload_n hx hb dX6_made_8 rfl (lv_at hl 0 rfl) ?_
  refine va_get (ci := 6) (v := .int (nn sz)) (C := RX6) (T := TX6) (N := 7) hx hb hts inlX6 hown hK hP 0 rfl rfl 4 (by decide) (hts _ mw_23_1) (fun _ h9 => h9) rfl dX6_made_9 ?_
  refine mgN_S (As := [.ref (aR 1), .int (nn sz)]) (rest := [.ref q, .ref q]) (wc := [(aR 1, .inl (yR 1, 400, .inl code))]) (wr := [(aR 0, .inr (6, [.ref tp, .ref (aR 1), .ref (aR 2), .ref (aR 3), .int (nn sz), .int (nn nc), .int vals])), (aR 2, .inl (yR 2, 12, .inl sumEnd)), (aR 3, .inl (yR 3, 12, .inl testEnd)), (q, .inr (5, [.null, .null, .null, .null, .int 0]))]) S hK hP hD hS hA (cJ7_copyOf (l := l) (D := D) (b1 := aR 1) (c1 := yR 1) (f := code) (n := 400) hsz (by omega)) [0] [1] [0, 2, 3, 4] rfl rfl rfl (by decide) (by decide) (by decide) EvC_blind (EvC_warm hEv) (gdS mw_25_15 mw_25_16 mw_3_20 mw_25_17) rfl rfl hd_copyOf ⟨Nat.le_of_ble_eq_true rfl, Nat.le_of_ble_eq_true rfl⟩ rfl hl.1 rfl (Nat.le_of_ble_eq_true rfl) dX6_made_12 ⟨Nat.le_of_ble_eq_true rfl, Nat.le_of_ble_eq_true rfl⟩ (fun w1 t1 a1 H locs hZ hK hP hD hS => ?_)
  obtain ⟨cA1, g1, rfl, rfl, hg1⟩ := hZ
  refine W.widen (k := 2) (n := 405) (Nat.le_refl _) (Nat.le_refl _) ?_
  replace hP : va_P D vwCl [(aR 0, .inr (6, [.ref tp, .ref (aR 1), .ref (aR 2), .ref (aR 3), .int (nn sz), .int (nn nc), .int vals])), (aR 2, .inl (yR 2, 12, .inl sumEnd)), (aR 3, .inl (yR 3, 12, .inl testEnd)), (q, .inr (5, [.null, .null, .null, .null, .int 0])), (aR 1, .inl (yR 1, 400, .inl code)), (a1, .inl (cA1, sz, .inl g1))] H := hP
  replace hD : va_D A [(aR 0, .inr (6, [.ref tp, .ref (aR 1), .ref (aR 2), .ref (aR 3), .int (nn sz), .int (nn nc), .int vals])), (aR 2, .inl (yR 2, 12, .inl sumEnd)), (aR 3, .inl (yR 3, 12, .inl testEnd)), (q, .inr (5, [.null, .null, .null, .null, .int 0])), (aR 1, .inl (yR 1, 400, .inl code)), (a1, .inl (cA1, sz, .inl g1))] := hD
  refine lv_aload_n hx hb dX6_made_15 rfl (lv_at hl 0 rfl) ?_
  refine va_get (ci := 6) (v := .ref (aR 2)) (C := RX6) (T := TX6) (N := 7) hx hb hts inlX6 hown hK hP 0 rfl rfl 2 (by decide) (hts _ mw_4_12) (fun _ h9 => h9) rfl dX6_made_16 ?_
  refine lv_aload_n hx hb dX6_made_19 rfl (lv_at hl 0 rfl) ?_
  refine va_get (ci := 6) (v := .int (nn nc)) (C := RX6) (T := TX6) (N := 7) hx hb hts inlX6 hown hK hP 0 rfl rfl 5 (by decide) (hts _ mw_23_2) (fun _ h9 => h9) rfl dX6_made_20 ?_
  refine mgN_S (As := [.ref (aR 2), .int (nn nc)]) (rest := [.ref a1, .ref q, .ref q]) (wc := [(aR 2, .inl (yR 2, 12, .inl sumEnd))]) (wr := [(aR 0, .inr (6, [.ref tp, .ref (aR 1), .ref (aR 2), .ref (aR 3), .int (nn sz), .int (nn nc), .int vals])), (aR 3, .inl (yR 3, 12, .inl testEnd)), (q, .inr (5, [.null, .null, .null, .null, .int 0])), (aR 1, .inl (yR 1, 400, .inl code)), (a1, .inl (cA1, sz, .inl g1))]) S hK hP hD hS hA (cJ7_copyOf (l := l) (D := D) (b1 := aR 2) (c1 := yR 2) (f := sumEnd) (n := 12) hnc (by omega)) [1] [1] [0, 2, 3, 4, 5] rfl rfl rfl (by decide) (by decide) (by decide) EvC_blind (EvC_warm hEv) (gdS mw_25_15 mw_25_16 mw_3_20 mw_25_17) rfl rfl hd_copyOf ⟨Nat.le_of_ble_eq_true rfl, Nat.le_of_ble_eq_true rfl⟩ rfl hl.1 rfl (Nat.le_of_ble_eq_true rfl) dX6_made_23 ⟨Nat.le_of_ble_eq_true rfl, Nat.le_of_ble_eq_true rfl⟩ (fun w1 t1 a2 H locs hZ hK hP hD hS => ?_)
  obtain ⟨cA2, g2, rfl, rfl, hg2⟩ := hZ
  refine W.widen (k := 3) (n := 805) (Nat.le_refl _) (Nat.le_refl _) ?_
  replace hP : va_P D vwCl [(aR 0, .inr (6, [.ref tp, .ref (aR 1), .ref (aR 2), .ref (aR 3), .int (nn sz), .int (nn nc), .int vals])), (aR 3, .inl (yR 3, 12, .inl testEnd)), (q, .inr (5, [.null, .null, .null, .null, .int 0])), (aR 1, .inl (yR 1, 400, .inl code)), (a1, .inl (cA1, sz, .inl g1)), (aR 2, .inl (yR 2, 12, .inl sumEnd)), (a2, .inl (cA2, nc, .inl g2))] H := hP
  replace hD : va_D A [(aR 0, .inr (6, [.ref tp, .ref (aR 1), .ref (aR 2), .ref (aR 3), .int (nn sz), .int (nn nc), .int vals])), (aR 3, .inl (yR 3, 12, .inl testEnd)), (q, .inr (5, [.null, .null, .null, .null, .int 0])), (aR 1, .inl (yR 1, 400, .inl code)), (a1, .inl (cA1, sz, .inl g1)), (aR 2, .inl (yR 2, 12, .inl sumEnd)), (a2, .inl (cA2, nc, .inl g2))] := hD
  refine lv_aload_n hx hb dX6_made_26 rfl (lv_at hl 0 rfl) ?_
  refine va_get (ci := 6) (v := .ref (aR 3)) (C := RX6) (T := TX6) (N := 7) hx hb hts inlX6 hown hK hP 0 rfl rfl 3 (by decide) (hts _ mw_4_13) (fun _ h9 => h9) rfl dX6_made_27 ?_
  refine lv_aload_n hx hb dX6_made_30 rfl (lv_at hl 0 rfl) ?_
  refine va_get (ci := 6) (v := .int (nn nc)) (C := RX6) (T := TX6) (N := 7) hx hb hts inlX6 hown hK hP 0 rfl rfl 5 (by decide) (hts _ mw_23_2) (fun _ h9 => h9) rfl dX6_made_31 ?_
  refine mgN_S (As := [.ref (aR 3), .int (nn nc)]) (rest := [.ref a2, .ref a1, .ref q, .ref q]) (wc := [(aR 3, .inl (yR 3, 12, .inl testEnd))]) (wr := [(aR 0, .inr (6, [.ref tp, .ref (aR 1), .ref (aR 2), .ref (aR 3), .int (nn sz), .int (nn nc), .int vals])), (q, .inr (5, [.null, .null, .null, .null, .int 0])), (aR 1, .inl (yR 1, 400, .inl code)), (a1, .inl (cA1, sz, .inl g1)), (aR 2, .inl (yR 2, 12, .inl sumEnd)), (a2, .inl (cA2, nc, .inl g2))]) S hK hP hD hS hA (cJ7_copyOf (l := l) (D := D) (b1 := aR 3) (c1 := yR 3) (f := testEnd) (n := 12) hnc (by omega)) [2] [1] [0, 2, 3, 4, 5, 6] rfl rfl rfl (by decide) (by decide) (by decide) EvC_blind (EvC_warm hEv) (gdS mw_25_15 mw_25_16 mw_3_20 mw_25_17) rfl rfl hd_copyOf ⟨Nat.le_of_ble_eq_true rfl, Nat.le_of_ble_eq_true rfl⟩ rfl hl.1 rfl (Nat.le_of_ble_eq_true rfl) dX6_made_34 ⟨Nat.le_of_ble_eq_true rfl, Nat.le_of_ble_eq_true rfl⟩ (fun w1 t1 a3 H locs hZ hK hP hD hS => ?_)
  obtain ⟨cA3, g3, rfl, rfl, hg3⟩ := hZ
  refine W.widen (k := 4) (n := 1205) (Nat.le_refl _) (Nat.le_refl _) ?_
  replace hP : va_P D vwCl [(aR 0, .inr (6, [.ref tp, .ref (aR 1), .ref (aR 2), .ref (aR 3), .int (nn sz), .int (nn nc), .int vals])), (q, .inr (5, [.null, .null, .null, .null, .int 0])), (aR 1, .inl (yR 1, 400, .inl code)), (a1, .inl (cA1, sz, .inl g1)), (aR 2, .inl (yR 2, 12, .inl sumEnd)), (a2, .inl (cA2, nc, .inl g2)), (aR 3, .inl (yR 3, 12, .inl testEnd)), (a3, .inl (cA3, nc, .inl g3))] H := hP
  replace hD : va_D A [(aR 0, .inr (6, [.ref tp, .ref (aR 1), .ref (aR 2), .ref (aR 3), .int (nn sz), .int (nn nc), .int vals])), (q, .inr (5, [.null, .null, .null, .null, .int 0])), (aR 1, .inl (yR 1, 400, .inl code)), (a1, .inl (cA1, sz, .inl g1)), (aR 2, .inl (yR 2, 12, .inl sumEnd)), (a2, .inl (cA2, nc, .inl g2)), (aR 3, .inl (yR 3, 12, .inl testEnd)), (a3, .inl (cA3, nc, .inl g3))] := hD
  refine mI (As := [.ref a1, .ref a2, .ref a3]) (rest := [.ref q]) (wr := [(aR 0, .inr (6, [.ref tp, .ref (aR 1), .ref (aR 2), .ref (aR 3), .int (nn sz), .int (nn nc), .int vals])), (aR 1, .inl (yR 1, 400, .inl code)), (a1, .inl (cA1, sz, .inl g1)), (aR 2, .inl (yR 2, 12, .inl sumEnd)), (a2, .inl (cA2, nc, .inl g2)), (aR 3, .inl (yR 3, 12, .inl testEnd)), (a3, .inl (cA3, nc, .inl g3))]) S hK hP hD hS hA (i5 (l := l) (D := D)) [] [1] [0, 2, 3, 4, 5, 6, 7] rfl rfl rfl (by decide) (by decide) (by decide) mw_26_6 mw_25_0 mw_26_4 mw_26_5 rfl rfl rfl hd_i5_init ⟨Nat.le_of_ble_eq_true rfl, Nat.le_of_ble_eq_true rfl⟩ rfl hl.1 rfl (Nat.le_of_ble_eq_true rfl) dX6_made_37 ⟨Nat.le_of_ble_eq_true rfl, Nat.le_of_ble_eq_true rfl⟩ (fun w1 t1 H locs hZ hK hP hD hS => ?_)
  obtain ⟨qs, cS, rfl, rfl⟩ := hZ
  refine W.widen (k := 5) (n := 1269) (Nat.le_refl _) (Nat.le_refl _) ?_
  have hP9 := hP.sub (ws' := cRR aR yR tp code sumEnd testEnd (nn sz) (nn nc) vals ++ cRu (adOf q [a1, a2, a3, qs]) (cyOf [cA1, cA2, cA3, cS]) sz g1 nc g2 nc g3 (fun _ => (0 : Int64)) 0) [0, 1, 3, 5, 7, 2, 4, 6, 8] rfl
  have hD9 := hD.sub (ws' := cRR aR yR tp code sumEnd testEnd (nn sz) (nn nc) vals ++ cRu (adOf q [a1, a2, a3, qs]) (cyOf [cA1, cA2, cA3, cS]) sz g1 nc g2 nc g3 (fun _ => (0 : Int64)) 0) [0, 1, 3, 5, 7, 2, 4, 6, 8] (by decide) rfl
  have hK9 := hK.sub (tys' := [((cyOf [cA1, cA2, cA3, cS]) 1, .int), ((cyOf [cA1, cA2, cA3, cS]) 2, .int), ((cyOf [cA1, cA2, cA3, cS]) 3, .int), ((cyOf [cA1, cA2, cA3, cS]) 4, .long)]) [3, 4, 5, 6] rfl
  exact hret _ _ _ _ _ _ _ ⟨[a1, a2, a3, qs], (cyOf [cA1, cA2, cA3, cS]), g1, g2, g3, rfl, rfl, hg1, hg2, hg3⟩ hK9 hP9 hD9 hS dX6_made_40
