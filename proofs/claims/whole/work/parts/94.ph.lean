theorem fill9 (v : Int32) : ∃ z, fJ7_fill 9 (fun _ => (0 : Int32)) v = some z ∧ ∀ r, r < 9 → z r = v := by
  refine ⟨fun r => if r < 9 then v else 0, ?_, fun r hr => if_pos hr⟩
  unfold fJ7_fill
  rw [lt_df, iter_for (st := fun k => ((fun r => if r < k then v else (0 : Int32)), nn k)) (n := 9) (out := fun r => if r < 9 then v else (0 : Int32)) ?h0 (by omega) ?hs ?he, bnd1_s]
  case h0 => exact Prod.ext (funext fun r => show (if r < 0 then v else (0 : Int32)) = 0 from if_neg (Nat.not_lt_zero r)) rfl
  case hs =>
    intro k hk
    show fJ7_fill_B5 (nn 9) 9 v (fun r => if r < k then v else (0 : Int32)) (nn k) = _
    unfold fJ7_fill_B5
    rw [if_neg (nle (a := 9) (b := k) (by omega) (by omega) (by omega)), nn_nat (by omega), if_neg (fun h => by
      rcases h with h | h
      · exact nlt0 (by omega) h
      · omega), lt_df, lt_df, nn_succ]
    refine congrArg (fun x => some (Sum.inl (x, nn (k + 1)))) (funext fun r => ?_)
    show (if r = k then v else if r < k then v else (0 : Int32)) = if r < k + 1 then v else 0
    by_cases h1 : r = k
    · rw [if_pos h1, if_pos (by omega)]
    · by_cases h2 : r < k
      · rw [if_neg h1, if_pos h2, if_pos (by omega)]
      · rw [if_neg h1, if_neg h2, if_neg (by omega)]
  case he =>
    show fJ7_fill_B5 (nn 9) 9 v _ (nn 9) = _
    unfold fJ7_fill_B5
    rw [if_pos (nleT (a := 9) (b := 9) (by omega) (by omega) (by omega))]
/-! contracts of methods that make cells and answer a number -/
def EvC (s : State) : Prop := va_Nw (.castable "[I" "java/lang/Cloneable") s
def PreU (D : va_G) (tys : List (ClassId × FieldType)) (ws : va_W) (sz : Nat) (av : List Value) (adK adV : Nat → Nat) : Array Value → State → Prop := va_Pc av (fun U => U.heap.size = sz ∧ va_P D vwCl ws U.heap ∧ va_K D vwCl tys U ∧ va_D (fun _ => True) ws ∧ SE adK adV (va_A ws sz) U U.heap ∧ EvC U)
theorem PreU_blind (D : va_G) (tys : List (ClassId × FieldType)) (ws : va_W) (sz : Nat) (av : List Value) (adK adV : Nat → Nat) : FrameBlind (PreU D tys ws sz av adK adV) := fun a U g mk q => by
  obtain ⟨q0, q1, qP, qK, qD, qE, qV⟩ := q
  exact ⟨q0, q1, qP, va_K.moved (u := U) (U := U.calling g mk a) (Vm.Alike.refl U.vm) qK, qD, SE.same (u := U) (U := U.calling g mk a) rfl qE, va_Nw.same (u := U) (U := U.calling g mk a) rfl rfl qV⟩
def MetT (l : Launch) (y : MethodName) (cc : ByteArray) (maxL : Nat) (ret : Option FieldType) (rm : Room) (D : va_G) (tys : List (ClassId × FieldType)) (ws : va_W) (av : List Value) (adK adV : Nat → Nat) (mc ms : Nat) (Z : va_W → List (ClassId × FieldType) → Int32 → Prop) : Prop :=
  ∀ sz : Nat, Met l y (Cond.code y cc maxL ret :: wsL_law) rm (PreU D tys ws sz av adK adV) (va_Qi (fun (r : Int32) (u : va_W × List (ClassId × FieldType)) => Z u.1 u.2 r) (fun u t => va_P D vwCl u.1 t.heap ∧ va_K D vwCl u.2 t ∧ va_D (va_A ws sz) u.1) (va_A ws sz)) mc ms (va_A ws sz)
abbrev RetT (cc : ByteArray) (rm : Room) (l : Launch) (D : va_G) (ty : FieldType) (mc ms : Nat) (Z : va_W → List (ClassId × FieldType) → Int32 → Prop) : Program → Env → State → MethodId → Array Value → List Frame → Method → Code → (Nat → Prop) → (State → Prop) → Prop := fun p e s m args below meth c A Q =>
  ∀ (ws' : va_W) (tys' : List (ClassId × FieldType)) (v : Int32) (pc : Nat) (ls : Array Slot) (H : Heap) (locs : List Loc), Z ws' tys' v → va_K D vwCl tys' s → va_P D vwCl ws' H → va_D A ws' → va_S A s.heap H locs → narrow ty (.int v) = .int v → decode cc pc = .ok (.ireturn, 1) → W p l e rm s m args below meth c H locs mc ms Q (F0 m pc ls [.int v])
theorem metT_of {l : Launch} {y : MethodName} {cc : ByteArray} {maxL : Nat} {ty : FieldType} {rm : Room} {D : va_G} {tys : List (ClassId × FieldType)} {ws : va_W} {av : List Value} {own : String} {adK adV : Nat → Nat} {mc ms : Nat} {Z : va_W → List (ClassId × FieldType) → Int32 → Prop} (ho : y.cls = own) (hy : plainName y.cls = true) (hlen : (lg_sl av).length ≤ maxL)
    (body : ∀ (p : Program) (e : Env) (s : State) (m : MethodId) (args : Array Value) (below : List Frame) (meth : Method) (c : Code) (A : Nat → Prop) (Q : State → Prop) (ls : Array Slot),
      CallFix p m c cc maxL s args wsL_law own → va_K D vwCl tys s → (∀ q, s.heap.size ≤ q → A q) → va_P D vwCl ws s.heap → va_D A ws → va_S A s.heap s.heap [] → lv_has ls maxL (lv_args 0 av) → SE adK adV A s s.heap → EvC s → RetT cc rm l D ty mc ms Z p e s m args below meth c A Q →
      W p l e rm s m args below meth c s.heap [] 0 0 Q (F0 m 0 ls [])) : MetT l y cc maxL (some ty) rm D tys ws av adK adV mc ms Z := by
  intro sz
  refine Met.ofW (cc := cc) (maxL := maxL) (ret := some ty) hy rfl ?_
  intro p e s m args below meth c s₁ B hml hv
  obtain ⟨rfl, hsz, hP, hK, hD0, hE, hV⟩ := hv
  have hts0 := atoms_spec (ws := Cond.code y cc maxL (some ty) :: wsL_law) B.pre
  have hown : s.vm.findClass own = some m.cls := by rw [← ho]; exact findClass_of_methodNamed B.named
  have hlocks := B.notSynchronized
  subst hsz
  have hD := hD0.self (sz := s.heap.size)
  have hA : ∀ q : Nat, s.heap.size ≤ q → va_A ws s.heap.size q := fun q h => Or.inr h
  have hl := lv_entry av (n := maxL) hlen
  rw [lg_entry_eq]
  exact body p e s m av.toArray below meth c _ _ _ ⟨B.exec, B.bytes, hml, hown, fun w h => hts0 w (List.mem_cons_of_mem _ h)⟩ hK hA hP hD va_S.rf hl hE hV
    (fun ws' tys' v pc ls H locs hZ hK9 hP9 hD9 hS hn hd => W.zret (v := v) B.exec B.bytes B.returns hn (fun t ht hW => ⟨⟨v, (ws', tys'), rfl, hZ, by rw [ht]; exact hP9, va_K.moved hW.alike hK9, hD9⟩, hS.F ht⟩) hS.2.2 hd)
section
variable {p : Program} {l : Launch} {e : Env} {R : Room} {s : State} {m : MethodId} {args : Array Value} {below : List Frame} {meth : Method} {c : Code} {H : Heap} {locs : List Loc} {Q : State → Prop} {cells slots mc ms : Nat}
variable {cc : ByteArray} {pc : Nat} {ls : Array Slot} {rest st0 : List Value} {D : va_G} {A : Nat → Prop} {tys tysC : List (ClassId × FieldType)} {wc wr : va_W} {own C : String} {nL n index maxL b : Nat} {y : MethodName} {bytes : ByteArray} {ret : Option FieldType} {rm : Room} {As : List Value} {Z : va_W → List (ClassId × FieldType) → Int32 → Prop}
theorem mgT_i (S : CallFix p m c cc nL s args wsL_law own) (hK : va_K D vwCl tys s) (hKc : va_K D vwCl tysC s) (hP : va_P D vwCl (wc ++ wr) H) (hD : va_D A (wc ++ wr)) (hS : va_S A s.heap H locs) (hA : ∀ q, s.heap.size ≤ q → A q) {adK adV : Nat → Nat} (hE : SE adK adV A s s.heap) (hV : EvC s)
    (hM : MetT l y bytes maxL ret rm D tysC wc (.ref b :: As) adK adV mc ms Z)
    (hg : GoodIn wsL_law (wsV own index C y (Cond.code y bytes maxL ret :: wsL_law))) (hrc : rm.cells = mc) (hrs : rm.slots = ms)
    (hd : y.cls = C ∧ y.cls ≠ "java/lang/invoke/MethodHandle" ∧ y.cls ≠ "java/lang/invoke/VarHandle" ∧ (parseMethodDescriptor y.desc).map (fun d => d.parameters.length) = some n) (hR : rm.frames + 1 ≤ R.frames ∧ 8 + (maxL + 11) + rm.locals ≤ R.locals)
    {ci q0 : Nat} {T : u_T} {N : Nat} {fs : List Value} (hc : vwCl[ci]? = some (C, T, N)) (he : wc[q0]? = some (b, .inr (ci, fs)))
    (hn : As.length = n) (hl : ls.size = nL) (hst : st0 = As.reverse ++ .ref b :: rest) (hr8 : (rest.map fun v => v.category).sum ≤ 8) (hdg : decode cc pc = .ok (.invokevirtual index, 3))
    (hf : cells + mc ≤ R.cells ∧ slots + ms ≤ R.slots)
    (kk : ∀ (w1 : va_W) (t1 : List (ClassId × FieldType)) (r : Int32) (H1 : Heap) (locs1 : List Loc), Z w1 t1 r → va_K D vwCl (tys ++ t1) s → va_P D vwCl (wr ++ w1) H1 → va_D A (wr ++ w1) → va_S A s.heap H1 locs1 → W p l e R s m args below meth c H1 locs1 (cells + mc) (slots + ms) Q (F0 m (pc + 3) ls (.int r :: rest))) : W p l e R s m args below meth c H locs cells slots Q (F0 m pc ls st0) := by
  have hC := rg_map wc wr
  have hRr := rg_map2 wc wr
  have hPc := hP.sub (List.range wc.length) (fm_of hC)
  have hDc := hD.sub (List.range wc.length) (rg_nd _) hC
  have hFc := va_free hD hS hA (List.range wc.length) hC
  refine va_calli (va_runV (As := As) (rest := rest) S (hM H.size) (cwV n S.2.2.2.2 hg rfl hrc hrs hd hR) ⟨PreU_blind D tysC wc H.size _ adK adV, va_recv hKc hPc hc he, fun U hU hW => ⟨rfl, by rw [hU], by rw [hU]; exact hPc, va_K.moved hW.alike hKc, hDc.weaken (fun _ _ _ _ => trivial), by rw [hU]; exact ((hE.kept hS.2.1).warm hW).narrow hFc, va_Nw.warmC hW hV⟩⟩ rfl hn hl hst (lv_room hr8) hdg hf) hS (fun q _ h => hFc q h) hFc (fun r' u t H1 locs1 ht hvm hw hB hz1 hk1 hS1 => ?_)
  obtain ⟨hP1, hK1, hD1⟩ := hB
  rw [ht] at hP1
  have hK1 := va_K.moved hvm.symm hK1
  obtain ⟨hP2, hD2⟩ := va_join hP hD (List.range wc.length) ((List.range wr.length).map (fun j => wc.length + j)) hC hRr (rg_nd2 _ _) (rg_dis _ _) hk1 hFc hP1 hD1
  exact kk u.1 u.2 r' H1 locs1 hw (hK.app hK1) hP2 hD2 hS1
end
abbrev rm_f11_ladder : Room := { frames := 8, cells := 7, slots := 43, locals := 175 }
set_option maxHeartbeats 4000000 in
set_option maxRecDepth 100000 in
theorem c11_ladder_bad {l : Launch} {D : va_G} {adK adV : Nat → Nat} {aL aT aR aN aW : Nat → Nat} {yL yT yR yN yW : Nat → ClassId} {zrr zh zo zp zs ql : Nat} {rls im pst : Nat → Option Nat} {rc nx pc0 len kind sign fault start stop fo xx nt md hour broken k1 g1 f1 st1 sp1 ru pe sb : Int32} {by9 nh nr nm rung grip want slips worn z13 z14 ro tr wt td sr sw : Nat → Int32} (hf0 : fJ7_fill 9 (fun _ => (0 : Int32)) (2 : Int32) = some z13) (hf1 : fJ7_fill 9 (fun _ => (0 : Int32)) (200 : Int32) = some z14) (hrd : f2_readInto by9 len kind sign fault start stop 0 0 0 z13 z14 (fun _ => (0 : Int32)) (fun _ => (0 : Int32)) (fun _ => (0 : Int32)) (fun _ => (0 : Int32)) = some (0, k1, g1, f1, st1, sp1, ru, pe, sb, ro, tr, wt, td, sr, sw)) : MetT l yX11_ladder cX11_ladder 3 (some .int) rm_f11_ladder D ([(yL 1, .object "LadderLand$Rule"), (yL 2, .object "LadderLand$State"), (yL 3, .object "LadderLand$World"), (yT 1, .int), (yN 1, .int), (yN 2, .int), (yN 3, .int), (yW 1, .int), (yW 2, .int), (yW 3, .int), (yW 4, .int), (yW 5, .int)]) (cLL aL yL (aT 0) (aR 0) zrr rls rc (aN 0) im pst nx pc0 zh zo zp zs ++ cTp aT yT by9 len kind sign fault start stop ++ cLR aR yR (aT 0) ++ cSt aN yN (aW 0) fo xx nt nh nr nm md ++ cW aW yW ql hour broken rung grip want slips worn) [.ref (aL 0)] adK adV 7 43 (fun w t r => ∃ (q : Nat) (L : List Nat) (cy : Nat → ClassId), w = cLL aL yL (aT 0) (aR 0) zrr rls rc (aN 0) im pst nx pc0 zh zo zp zs ++ cTp aT yT by9 0 k1 g1 f1 st1 sp1 ++ cLR aR yR (aT 0) ++ cSt aN yN (aW 0) fo xx nt nh nr nm md ++ cW aW yW ql hour broken rung grip want slips worn ++ cLd (adOf q L) cy ru pe sb ro tr wt td sr sw ∧ t = [(yL 1, .object "LadderLand$Rule"), (yL 2, .object "LadderLand$State"), (yL 3, .object "LadderLand$World"), (yT 1, .int), (yN 1, .int), (yN 2, .int), (yN 3, .int), (yW 1, .int), (yW 2, .int), (yW 3, .int), (yW 4, .int), (yW 5, .int)] ++ [(cy 1, .int), (cy 2, .int), (cy 3, .int), (cy 4, .int), (cy 5, .int), (cy 6, .int)] ∧ r = -2 - f1) := by
  refine metT_of (own := RX11) rfl (by decide) (Nat.le_of_ble_eq_true rfl) ?_
  intro p e s m args below meth c A Q ls S hK hA hP hD hS hl hE hV hret
  obtain ⟨hx, hb, hml, hown, hts⟩ := id S
  replace hl : lv_has ls 3 [(0, .ref (aL 0))] := hl
  generalize hH : s.heap = H at hP ⊢
  replace hS : va_S A s.heap H [] := by rw [← hH]; exact hS
  generalize hlo : ([] : List Loc) = locs at hS ⊢
  refine va_new (ci := 1) (fs := [.int 0, .int 0, .int 0, .null, .null, .null, .null, .null, .null]) (C := RX1) (T := TX1) (N := 9) hx hb hts inlX1 tyX1 tyX1_ok hown (hts _ mw_1_12) (hts _ mw_1_13) (hts _ mw_1_14) hK hP hD hS hA rfl (fun j hj => by rcases (show j = 0 ∨ j = 1 ∨ j = 2 ∨ j = 3 ∨ j = 4 ∨ j = 5 ∨ j = 6 ∨ j = 7 ∨ j = 8 by omega) with rfl | rfl | rfl | rfl | rfl | rfl | rfl | rfl | rfl <;> rfl) (Nat.le_of_ble_eq_true rfl) (Nat.le_of_ble_eq_true rfl) dX11_ladder_0 (fun q H hP hD hS => ?_)
  refine W.widen (k := 1) (n := 9) (Nat.le_refl _) (Nat.le_refl _) ?_
  refine lv_dup hx hb dX11_ladder_3 rfl ?_
  refine mIb (wr := cLL aL yL (aT 0) (aR 0) zrr rls rc (aN 0) im pst nx pc0 zh zo zp zs ++ cTp aT yT by9 len kind sign fault start stop ++ cLR aR yR (aT 0) ++ cSt aN yN (aW 0) fo xx nt nh nr nm md ++ cW aW yW ql hour broken rung grip want slips worn) (wc := [(q, .inr (1, [.int 0, .int 0, .int 0, .null, .null, .null, .null, .null, .null]))]) (As := []) (rest := [.ref q]) S hK hP hD hS hA (i1 (l := l) (D := D) hf0 hf1) mw_3_9 mw_1_14 mw_3_7 mw_3_8 rfl rfl rfl hd_i1_init ⟨Nat.le_of_ble_eq_true rfl, Nat.le_of_ble_eq_true rfl⟩ rfl hl.1 rfl (Nat.le_of_ble_eq_true rfl) dX11_ladder_4 ⟨Nat.le_of_ble_eq_true rfl, Nat.le_of_ble_eq_true rfl⟩ (fun w1 t1 H locs hZ hK hP hD hS => ?_)
  obtain ⟨L, cy, rfl, rfl⟩ := hZ
  refine W.widen (k := 7) (n := 43) (Nat.le_refl _) (Nat.le_refl _) ?_
  replace hP : va_P D vwCl (cLL aL yL (aT 0) (aR 0) zrr rls rc (aN 0) im pst nx pc0 zh zo zp zs ++ cTp aT yT by9 len kind sign fault start stop ++ cLR aR yR (aT 0) ++ cSt aN yN (aW 0) fo xx nt nh nr nm md ++ cW aW yW ql hour broken rung grip want slips worn ++ cLd (adOf q L) cy 0 0 0 z13 z14 (fun _ => (0 : Int32)) (fun _ => (0 : Int32)) (fun _ => (0 : Int32)) (fun _ => (0 : Int32))) H := hP
  replace hD : va_D A (cLL aL yL (aT 0) (aR 0) zrr rls rc (aN 0) im pst nx pc0 zh zo zp zs ++ cTp aT yT by9 len kind sign fault start stop ++ cLR aR yR (aT 0) ++ cSt aN yN (aW 0) fo xx nt nh nr nm md ++ cW aW yW ql hour broken rung grip want slips worn ++ cLd (adOf q L) cy 0 0 0 z13 z14 (fun _ => (0 : Int32)) (fun _ => (0 : Int32)) (fun _ => (0 : Int32)) (fun _ => (0 : Int32))) := hD
  refine lv_astore_n (lv' := [(1, .ref q), (0, .ref (aL 0))]) hx hb dX11_ladder_7 rfl hl (by decide) rfl (fun ls hl => ?_)
  refine lv_aload_n hx hb dX11_ladder_8 rfl (lv_at hl 1 rfl) ?_
  refine va_get (ci := 11) (v := .ref (aR 0)) (C := RX11) (T := TX11) (N := 14) hx hb hts inlX11 hown hK hP 0 rfl rfl 1 (by decide) (hts _ mw_1_22) (fun _ h9 => h9) rfl dX11_ladder_9 ?_
  refine lv_aload_n hx hb dX11_ladder_12 rfl (lv_at hl 0 rfl) ?_
  refine mgV_iE (As := [.ref q]) (rest := []) (wc := cLR aR yR (aT 0) ++ cTp aT yT by9 len kind sign fault start stop ++ cLd (adOf q L) cy 0 0 0 z13 z14 (fun _ => (0 : Int32)) (fun _ => (0 : Int32)) (fun _ => (0 : Int32)) (fun _ => (0 : Int32))) (wr := cLL aL yL (aT 0) (aR 0) zrr rls rc (aN 0) im pst nx pc0 zh zo zp zs ++ cSt aN yN (aW 0) fo xx nt nh nr nm md ++ cW aW yW ql hour broken rung grip want slips worn) (wf := cLL aL yL (aT 0) (aR 0) zrr rls rc (aN 0) im pst nx pc0 zh zo zp zs ++ cTp aT yT by9 len k1 g1 f1 st1 sp1 ++ cLR aR yR (aT 0) ++ cSt aN yN (aW 0) fo xx nt nh nr nm md ++ cW aW yW ql hour broken rung grip want slips worn ++ cLd (adOf q L) cy ru pe sb ro tr wt td sr sw) S hK hP hD hS hA hE (c2_readInto (ad_a1 := adOf q L) hrd) [3, 12, 13, 14, 15, 16, 17] [6, 4, 5, 17, 18, 19, 20, 21, 22, 23] [0, 1, 2, 3, 7, 8, 9, 10, 11, 12, 13, 14, 15, 16] [0, 1, 2, 3, 15, 16, 14, 4, 5, 6, 7, 8, 9, 10, 11, 12, 13, 17, 18, 19, 20, 21, 22, 23] rfl rfl rfl (by decide) (by decide) (by decide) rfl (by decide) (gdV mw_9_13 mw_9_14 mw_9_15 mw_1_21 mw_9_16) rfl rfl hd_f2_readInto ⟨Nat.le_of_ble_eq_true rfl, Nat.le_of_ble_eq_true rfl⟩ (ci := 2) (q0 := 0) rfl rfl rfl hl.1 rfl (Nat.le_of_ble_eq_true rfl) dX11_ladder_13 ⟨Nat.le_of_ble_eq_true rfl, Nat.le_of_ble_eq_true rfl⟩ (fun H locs hP hD hS => ?_)
  refine lv_istore_n (lv' := [(2, .int 0), (1, .ref q), (0, .ref (aL 0))]) hx hb dX11_ladder_16 rfl hl (by decide) rfl (fun ls hl => ?_)
  refine lv_aload_n hx hb dX11_ladder_17 rfl (lv_at hl 2 rfl) ?_
  refine va_get (ci := 11) (v := .ref (aT 0)) (C := RX11) (T := TX11) (N := 14) hx hb hts inlX11 hown hK hP 0 rfl rfl 0 (by decide) (hts _ mw_1_18) (fun _ h9 => h9) rfl dX11_ladder_18 ?_
  refine lv_iconst (v := (0 : Int32)) hx hb dX11_ladder_21 (by decide) ?_
  refine va_put (ci := 9) (v := .int 0) (ty := .int) (C := RX9) (T := TX9) (N := 7) hx hb hts inlX9 tyX9 tyX9_ok nmX9 hown hK hP hD hS 4 rfl rfl 1 (by decide) (hts _ mw_8_6) (fun _ h9 => h9) rfl (by decide +kernel) rfl rfl (Nat.le_of_ble_eq_true rfl) dX11_ladder_22 (fun H locs hP hD hS => ?_)
  replace hP : va_P D vwCl (cLL aL yL (aT 0) (aR 0) zrr rls rc (aN 0) im pst nx pc0 zh zo zp zs ++ cTp aT yT by9 0 k1 g1 f1 st1 sp1 ++ cLR aR yR (aT 0) ++ cSt aN yN (aW 0) fo xx nt nh nr nm md ++ cW aW yW ql hour broken rung grip want slips worn ++ cLd (adOf q L) cy ru pe sb ro tr wt td sr sw) H := hP
  replace hD : va_D A (cLL aL yL (aT 0) (aR 0) zrr rls rc (aN 0) im pst nx pc0 zh zo zp zs ++ cTp aT yT by9 0 k1 g1 f1 st1 sp1 ++ cLR aR yR (aT 0) ++ cSt aN yN (aW 0) fo xx nt nh nr nm md ++ cW aW yW ql hour broken rung grip want slips worn ++ cLd (adOf q L) cy ru pe sb ro tr wt td sr sw) := hD
  refine lv_iload_n hx hb dX11_ladder_25 rfl (lv_at hl 0 rfl) ?_
  refine lv_if_ne (tgt := 40) hx hb dX11_ladder_26 rfl (fun c9 => absurd rfl c9) (fun _ => ?_)
  refine lv_bipush (v := (-2 : Int32)) hx hb dX11_ladder_29 (by decide) ?_
  refine lv_aload_n hx hb dX11_ladder_31 rfl (lv_at hl 2 rfl) ?_
  refine va_get (ci := 11) (v := .ref (aT 0)) (C := RX11) (T := TX11) (N := 14) hx hb hts inlX11 hown hK hP 0 rfl rfl 0 (by decide) (hts _ mw_1_18) (fun _ h9 => h9) rfl dX11_ladder_32 ?_
  refine va_get (ci := 9) (v := .int f1) (C := RX9) (T := TX9) (N := 7) hx hb hts inlX9 hown hK hP 4 rfl rfl 4 (by decide) (hts _ mw_9_9) (fun _ h9 => h9) rfl dX11_ladder_35 ?_
  refine lv_isub hx hb dX11_ladder_38 ?_
  exact hret _ _ _ _ _ _ _ ⟨q, L, cy, rfl, rfl, rfl⟩ hK hP hD hS rfl dX11_ladder_39
set_option maxHeartbeats 4000000 in
set_option maxRecDepth 100000 in
theorem c11_ladder_ok {l : Launch} {D : va_G} {adK adV : Nat → Nat} {aL aT aR aN aW : Nat → Nat} {yL yT yR yN yW : Nat → ClassId} {zrr zh zo zp zs ql : Nat} {rls im pst : Nat → Option Nat} {rc nx pc0 len kind sign fault start stop fo xx nt md hour broken k1 g1 f1 st1 sp1 ru pe sb : Int32} {by9 nh nr nm rung grip want slips worn z13 z14 ro tr wt td sr sw : Nat → Int32} (hf0 : fJ7_fill 9 (fun _ => (0 : Int32)) (2 : Int32) = some z13) (hf1 : fJ7_fill 9 (fun _ => (0 : Int32)) (200 : Int32) = some z14) (hrd : f2_readInto by9 len kind sign fault start stop 0 0 0 z13 z14 (fun _ => (0 : Int32)) (fun _ => (0 : Int32)) (fun _ => (0 : Int32)) (fun _ => (0 : Int32)) = some (1, k1, g1, f1, st1, sp1, ru, pe, sb, ro, tr, wt, td, sr, sw)) {h2 b2 : Int32} {r2 g2 w2 s2 k2 : Nat → Int32} (hbg : f10_begin hour broken rung grip want slips worn sb td sr sw = some (h2, b2, r2, g2, w2, s2, k2)) : MetT l yX11_ladder cX11_ladder 3 (some .int) rm_f11_ladder D ([(yL 1, .object "LadderLand$Rule"), (yL 2, .object "LadderLand$State"), (yL 3, .object "LadderLand$World"), (yT 1, .int), (yN 1, .int), (yN 2, .int), (yN 3, .int), (yW 1, .int), (yW 2, .int), (yW 3, .int), (yW 4, .int), (yW 5, .int)]) (cLL aL yL (aT 0) (aR 0) zrr rls rc (aN 0) im pst nx pc0 zh zo zp zs ++ cTp aT yT by9 len kind sign fault start stop ++ cLR aR yR (aT 0) ++ cSt aN yN (aW 0) fo xx nt nh nr nm md ++ cW aW yW ql hour broken rung grip want slips worn) [.ref (aL 0)] adK adV 7 43 (fun w t r => ∃ (q : Nat) (L : List Nat) (cy : Nat → ClassId), w = cLL aL yL (aT 0) (aR 0) zrr rls rc (aN 0) im pst nx 0 zh zo zp zs ++ cTp aT yT by9 0 k1 g1 f1 st1 sp1 ++ cLR aR yR (aT 0) ++ cSt aN yN (aW 0) fo xx 0 nh nr nm md ++ cW aW yW q h2 b2 r2 g2 w2 s2 k2 ++ cLd (adOf q L) cy ru pe sb ro tr wt td sr sw ∧ t = [(yL 1, .object "LadderLand$Rule"), (yL 2, .object "LadderLand$State"), (yL 3, .object "LadderLand$World"), (yT 1, .int), (yN 1, .int), (yN 2, .int), (yN 3, .int), (yW 1, .int), (yW 2, .int), (yW 3, .int), (yW 4, .int), (yW 5, .int)] ++ [(cy 1, .int), (cy 2, .int), (cy 3, .int), (cy 4, .int), (cy 5, .int), (cy 6, .int)] ∧ r = pe) := by
  refine metT_of (own := RX11) rfl (by decide) (Nat.le_of_ble_eq_true rfl) ?_
  intro p e s m args below meth c A Q ls S hK hA hP hD hS hl hE hV hret
  obtain ⟨hx, hb, hml, hown, hts⟩ := id S
  replace hl : lv_has ls 3 [(0, .ref (aL 0))] := hl
  generalize hH : s.heap = H at hP ⊢
  replace hS : va_S A s.heap H [] := by rw [← hH]; exact hS
  generalize hlo : ([] : List Loc) = locs at hS ⊢
  refine va_new (ci := 1) (fs := [.int 0, .int 0, .int 0, .null, .null, .null, .null, .null, .null]) (C := RX1) (T := TX1) (N := 9) hx hb hts inlX1 tyX1 tyX1_ok hown (hts _ mw_1_12) (hts _ mw_1_13) (hts _ mw_1_14) hK hP hD hS hA rfl (fun j hj => by rcases (show j = 0 ∨ j = 1 ∨ j = 2 ∨ j = 3 ∨ j = 4 ∨ j = 5 ∨ j = 6 ∨ j = 7 ∨ j = 8 by omega) with rfl | rfl | rfl | rfl | rfl | rfl | rfl | rfl | rfl <;> rfl) (Nat.le_of_ble_eq_true rfl) (Nat.le_of_ble_eq_true rfl) dX11_ladder_0 (fun q H hP hD hS => ?_)
  refine W.widen (k := 1) (n := 9) (Nat.le_refl _) (Nat.le_refl _) ?_
  refine lv_dup hx hb dX11_ladder_3 rfl ?_
  refine mIb (wr := cLL aL yL (aT 0) (aR 0) zrr rls rc (aN 0) im pst nx pc0 zh zo zp zs ++ cTp aT yT by9 len kind sign fault start stop ++ cLR aR yR (aT 0) ++ cSt aN yN (aW 0) fo xx nt nh nr nm md ++ cW aW yW ql hour broken rung grip want slips worn) (wc := [(q, .inr (1, [.int 0, .int 0, .int 0, .null, .null, .null, .null, .null, .null]))]) (As := []) (rest := [.ref q]) S hK hP hD hS hA (i1 (l := l) (D := D) hf0 hf1) mw_3_9 mw_1_14 mw_3_7 mw_3_8 rfl rfl rfl hd_i1_init ⟨Nat.le_of_ble_eq_true rfl, Nat.le_of_ble_eq_true rfl⟩ rfl hl.1 rfl (Nat.le_of_ble_eq_true rfl) dX11_ladder_4 ⟨Nat.le_of_ble_eq_true rfl, Nat.le_of_ble_eq_true rfl⟩ (fun w1 t1 H locs hZ hK hP hD hS => ?_)
  obtain ⟨L, cy, rfl, rfl⟩ := hZ
  refine W.widen (k := 7) (n := 43) (Nat.le_refl _) (Nat.le_refl _) ?_
  replace hP : va_P D vwCl (cLL aL yL (aT 0) (aR 0) zrr rls rc (aN 0) im pst nx pc0 zh zo zp zs ++ cTp aT yT by9 len kind sign fault start stop ++ cLR aR yR (aT 0) ++ cSt aN yN (aW 0) fo xx nt nh nr nm md ++ cW aW yW ql hour broken rung grip want slips worn ++ cLd (adOf q L) cy 0 0 0 z13 z14 (fun _ => (0 : Int32)) (fun _ => (0 : Int32)) (fun _ => (0 : Int32)) (fun _ => (0 : Int32))) H := hP
  replace hD : va_D A (cLL aL yL (aT 0) (aR 0) zrr rls rc (aN 0) im pst nx pc0 zh zo zp zs ++ cTp aT yT by9 len kind sign fault start stop ++ cLR aR yR (aT 0) ++ cSt aN yN (aW 0) fo xx nt nh nr nm md ++ cW aW yW ql hour broken rung grip want slips worn ++ cLd (adOf q L) cy 0 0 0 z13 z14 (fun _ => (0 : Int32)) (fun _ => (0 : Int32)) (fun _ => (0 : Int32)) (fun _ => (0 : Int32))) := hD
  refine lv_astore_n (lv' := [(1, .ref q), (0, .ref (aL 0))]) hx hb dX11_ladder_7 rfl hl (by decide) rfl (fun ls hl => ?_)
  refine lv_aload_n hx hb dX11_ladder_8 rfl (lv_at hl 1 rfl) ?_
  refine va_get (ci := 11) (v := .ref (aR 0)) (C := RX11) (T := TX11) (N := 14) hx hb hts inlX11 hown hK hP 0 rfl rfl 1 (by decide) (hts _ mw_1_22) (fun _ h9 => h9) rfl dX11_ladder_9 ?_
  refine lv_aload_n hx hb dX11_ladder_12 rfl (lv_at hl 0 rfl) ?_
  refine mgV_iE (As := [.ref q]) (rest := []) (wc := cLR aR yR (aT 0) ++ cTp aT yT by9 len kind sign fault start stop ++ cLd (adOf q L) cy 0 0 0 z13 z14 (fun _ => (0 : Int32)) (fun _ => (0 : Int32)) (fun _ => (0 : Int32)) (fun _ => (0 : Int32))) (wr := cLL aL yL (aT 0) (aR 0) zrr rls rc (aN 0) im pst nx pc0 zh zo zp zs ++ cSt aN yN (aW 0) fo xx nt nh nr nm md ++ cW aW yW ql hour broken rung grip want slips worn) (wf := cLL aL yL (aT 0) (aR 0) zrr rls rc (aN 0) im pst nx pc0 zh zo zp zs ++ cTp aT yT by9 len k1 g1 f1 st1 sp1 ++ cLR aR yR (aT 0) ++ cSt aN yN (aW 0) fo xx nt nh nr nm md ++ cW aW yW ql hour broken rung grip want slips worn ++ cLd (adOf q L) cy ru pe sb ro tr wt td sr sw) S hK hP hD hS hA hE (c2_readInto (ad_a1 := adOf q L) hrd) [3, 12, 13, 14, 15, 16, 17] [6, 4, 5, 17, 18, 19, 20, 21, 22, 23] [0, 1, 2, 3, 7, 8, 9, 10, 11, 12, 13, 14, 15, 16] [0, 1, 2, 3, 15, 16, 14, 4, 5, 6, 7, 8, 9, 10, 11, 12, 13, 17, 18, 19, 20, 21, 22, 23] rfl rfl rfl (by decide) (by decide) (by decide) rfl (by decide) (gdV mw_9_13 mw_9_14 mw_9_15 mw_1_21 mw_9_16) rfl rfl hd_f2_readInto ⟨Nat.le_of_ble_eq_true rfl, Nat.le_of_ble_eq_true rfl⟩ (ci := 2) (q0 := 0) rfl rfl rfl hl.1 rfl (Nat.le_of_ble_eq_true rfl) dX11_ladder_13 ⟨Nat.le_of_ble_eq_true rfl, Nat.le_of_ble_eq_true rfl⟩ (fun H locs hP hD hS => ?_)
  refine lv_istore_n (lv' := [(2, .int 1), (1, .ref q), (0, .ref (aL 0))]) hx hb dX11_ladder_16 rfl hl (by decide) rfl (fun ls hl => ?_)
  refine lv_aload_n hx hb dX11_ladder_17 rfl (lv_at hl 2 rfl) ?_
  refine va_get (ci := 11) (v := .ref (aT 0)) (C := RX11) (T := TX11) (N := 14) hx hb hts inlX11 hown hK hP 0 rfl rfl 0 (by decide) (hts _ mw_1_18) (fun _ h9 => h9) rfl dX11_ladder_18 ?_
  refine lv_iconst (v := (0 : Int32)) hx hb dX11_ladder_21 (by decide) ?_
  refine va_put (ci := 9) (v := .int 0) (ty := .int) (C := RX9) (T := TX9) (N := 7) hx hb hts inlX9 tyX9 tyX9_ok nmX9 hown hK hP hD hS 4 rfl rfl 1 (by decide) (hts _ mw_8_6) (fun _ h9 => h9) rfl (by decide +kernel) rfl rfl (Nat.le_of_ble_eq_true rfl) dX11_ladder_22 (fun H locs hP hD hS => ?_)
  replace hP : va_P D vwCl (cLL aL yL (aT 0) (aR 0) zrr rls rc (aN 0) im pst nx pc0 zh zo zp zs ++ cTp aT yT by9 0 k1 g1 f1 st1 sp1 ++ cLR aR yR (aT 0) ++ cSt aN yN (aW 0) fo xx nt nh nr nm md ++ cW aW yW ql hour broken rung grip want slips worn ++ cLd (adOf q L) cy ru pe sb ro tr wt td sr sw) H := hP
  replace hD : va_D A (cLL aL yL (aT 0) (aR 0) zrr rls rc (aN 0) im pst nx pc0 zh zo zp zs ++ cTp aT yT by9 0 k1 g1 f1 st1 sp1 ++ cLR aR yR (aT 0) ++ cSt aN yN (aW 0) fo xx nt nh nr nm md ++ cW aW yW ql hour broken rung grip want slips worn ++ cLd (adOf q L) cy ru pe sb ro tr wt td sr sw) := hD
  refine lv_iload_n hx hb dX11_ladder_25 rfl (lv_at hl 0 rfl) ?_
  refine lv_if_ne (tgt := 40) hx hb dX11_ladder_26 rfl (fun _ => ?_) (fun c9 => absurd c9 (by decide))
  refine lv_aload_n hx hb dX11_ladder_40 rfl (lv_at hl 2 rfl) ?_
  refine va_get (ci := 11) (v := .ref (aN 0)) (C := RX11) (T := TX11) (N := 14) hx hb hts inlX11 hown hK hP 0 rfl rfl 5 (by decide) (hts _ mw_2_8) (fun _ h9 => h9) rfl dX11_ladder_41 ?_
  refine va_get (ci := 8) (v := .ref (aW 0)) (C := RX8) (T := TX8) (N := 8) hx hb hts inlX8 hown hK hP 7 rfl rfl 0 (by decide) (hts _ mw_3_1) (fun _ h9 => h9) rfl dX11_ladder_44 ?_
  refine lv_aload_n hx hb dX11_ladder_47 rfl (lv_at hl 1 rfl) ?_
  refine mgV_v (As := [.ref q]) (rest := []) (wc := cW aW yW ql hour broken rung grip want slips worn ++ cLd (adOf q L) cy ru pe sb ro tr wt td sr sw) (wr := cLL aL yL (aT 0) (aR 0) zrr rls rc (aN 0) im pst nx pc0 zh zo zp zs ++ cTp aT yT by9 0 k1 g1 f1 st1 sp1 ++ cLR aR yR (aT 0) ++ cSt aN yN (aW 0) fo xx nt nh nr nm md) (wf := cLL aL yL (aT 0) (aR 0) zrr rls rc (aN 0) im pst nx pc0 zh zo zp zs ++ cTp aT yT by9 0 k1 g1 f1 st1 sp1 ++ cLR aR yR (aT 0) ++ cSt aN yN (aW 0) fo xx nt nh nr nm md ++ cW aW yW q h2 b2 r2 g2 w2 s2 k2 ++ cLd (adOf q L) cy ru pe sb ro tr wt td sr sw) S hK hP hD hS hA (c10_begin (ad_a1 := adOf q L) (cy_a1 := cy) (z_a1_rungs := ru) (z_a1_people := pe) (z_a1_room := ro) (z_a1_strength := tr) (z_a1_weight := wt) hbg) [7, 8, 9, 10, 11, 12, 13, 14, 15, 16, 17] [11, 12, 13, 14, 15, 16, 17, 18, 19, 20, 21, 22, 23] [0, 1, 2, 3, 4, 5, 6, 7, 8, 9, 10] (List.range 24) rfl rfl rfl (by decide) (by decide) (by decide) rfl (by decide) (gdV mw_15_1 mw_15_2 mw_15_3 mw_2_13 mw_15_4) rfl rfl hd_f10_begin ⟨Nat.le_of_ble_eq_true rfl, Nat.le_of_ble_eq_true rfl⟩ (ci := 10) (q0 := 0) rfl rfl rfl hl.1 rfl (Nat.le_of_ble_eq_true rfl) dX11_ladder_48 ⟨Nat.le_of_ble_eq_true rfl, Nat.le_of_ble_eq_true rfl⟩ (fun H locs hP hD hS => ?_)
  refine lv_aload_n hx hb dX11_ladder_51 rfl (lv_at hl 2 rfl) ?_
  refine va_get (ci := 11) (v := .ref (aN 0)) (C := RX11) (T := TX11) (N := 14) hx hb hts inlX11 hown hK hP 0 rfl rfl 5 (by decide) (hts _ mw_2_8) (fun _ h9 => h9) rfl dX11_ladder_52 ?_
  refine lv_iconst (v := (0 : Int32)) hx hb dX11_ladder_55 (by decide) ?_
  refine va_put (ci := 8) (v := .int 0) (ty := .int) (C := RX8) (T := TX8) (N := 8) hx hb hts inlX8 tyX8 tyX8_ok nmX8 hown hK hP hD hS 7 rfl rfl 3 (by decide) (hts _ mw_9_10) (fun _ h9 => h9) rfl (by decide +kernel) rfl rfl (Nat.le_of_ble_eq_true rfl) dX11_ladder_56 (fun H locs hP hD hS => ?_)
  replace hP : va_P D vwCl (cLL aL yL (aT 0) (aR 0) zrr rls rc (aN 0) im pst nx pc0 zh zo zp zs ++ cTp aT yT by9 0 k1 g1 f1 st1 sp1 ++ cLR aR yR (aT 0) ++ cSt aN yN (aW 0) fo xx 0 nh nr nm md ++ cW aW yW q h2 b2 r2 g2 w2 s2 k2 ++ cLd (adOf q L) cy ru pe sb ro tr wt td sr sw) H := hP
  replace hD : va_D A (cLL aL yL (aT 0) (aR 0) zrr rls rc (aN 0) im pst nx pc0 zh zo zp zs ++ cTp aT yT by9 0 k1 g1 f1 st1 sp1 ++ cLR aR yR (aT 0) ++ cSt aN yN (aW 0) fo xx 0 nh nr nm md ++ cW aW yW q h2 b2 r2 g2 w2 s2 k2 ++ cLd (adOf q L) cy ru pe sb ro tr wt td sr sw) := hD
  refine lv_aload_n hx hb dX11_ladder_59 rfl (lv_at hl 2 rfl) ?_
  refine lv_iconst (v := (0 : Int32)) hx hb dX11_ladder_60 (by decide) ?_
  refine va_put (ci := 11) (v := .int 0) (ty := .int) (C := RX11) (T := TX11) (N := 14) hx hb hts inlX11 tyX11 tyX11_ok nmX11 hown hK hP hD hS 0 rfl rfl 9 (by decide) (hts _ mw_9_11) (fun _ h9 => h9) rfl (by decide +kernel) rfl rfl (Nat.le_of_ble_eq_true rfl) dX11_ladder_61 (fun H locs hP hD hS => ?_)
  replace hP : va_P D vwCl (cLL aL yL (aT 0) (aR 0) zrr rls rc (aN 0) im pst nx 0 zh zo zp zs ++ cTp aT yT by9 0 k1 g1 f1 st1 sp1 ++ cLR aR yR (aT 0) ++ cSt aN yN (aW 0) fo xx 0 nh nr nm md ++ cW aW yW q h2 b2 r2 g2 w2 s2 k2 ++ cLd (adOf q L) cy ru pe sb ro tr wt td sr sw) H := hP
  replace hD : va_D A (cLL aL yL (aT 0) (aR 0) zrr rls rc (aN 0) im pst nx 0 zh zo zp zs ++ cTp aT yT by9 0 k1 g1 f1 st1 sp1 ++ cLR aR yR (aT 0) ++ cSt aN yN (aW 0) fo xx 0 nh nr nm md ++ cW aW yW q h2 b2 r2 g2 w2 s2 k2 ++ cLd (adOf q L) cy ru pe sb ro tr wt td sr sw) := hD
  refine lv_aload_n hx hb dX11_ladder_64 rfl (lv_at hl 1 rfl) ?_
  refine va_get (ci := 1) (v := .int pe) (C := RX1) (T := TX1) (N := 9) hx hb hts inlX1 hown hK hP 17 rfl rfl 1 (by decide) (hts _ mw_9_12) (fun _ h9 => h9) rfl dX11_ladder_65 ?_
  exact hret _ _ _ _ _ _ _ ⟨q, L, cy, rfl, rfl, rfl⟩ hK hP hD hS rfl dX11_ladder_68

