/-! the law's cases: what every case begins with, its arguments, the frame of what follows -/
/-- the room of a run of calls, what holds at every call -/
def Cx (p : Program) (m9 : MethodId) (c9 : Code) (s : State) (A : Nat → Prop) (D : va_G) (adK adV : Nat → Nat) (ad : Nat → Nat → Nat) (cy : Nat → Nat → ClassId) (ims pst : Nat → Option Nat) (b L : Nat) (xs : Nat → Int32) : Prop :=
  CallFix p m9 c9 cL_law 4 s #[.ref b] wsL_law RL ∧ (∀ q, s.heap.size ≤ q → A q) ∧ ¬ A b ∧ b < s.heap.size ∧ va_X b L xs s s.heap ∧ L ≤ 3072 ∧ FK D s ad cy ims pst ∧ SE adK adV A s s.heap ∧ EvC s
abbrev lvL (ad : Nat → Nat → Nat) (b i : Nat) : List (Nat × Value) := [(3, .int (nn i)), (2, .ref (ad 46 0)), (1, .ref (ad 0 0)), (0, .ref b)]
section
variable {p : Program} {l : Launch} {e : Env} {s : State} {m9 : MethodId} {below : List Frame} {meth : Method} {c9 : Code} {Q : State → Prop} {D : va_G} {A : Nat → Prop} {adK adV : Nat → Nat} {ad : Nat → Nat → Nat} {cy : Nat → Nat → ClassId} {ims pst : Nat → Option Nat} {b L i : Nat} {xs : Nat → Int32} {H : Heap} {locs : List Loc} {cells slots : Nat} {ls : Array Slot} {pc : Nat} {st : List Value}
theorem ld1 (C : Cx p m9 c9 s A D adK adV ad cy ims pst b L xs) (hS : va_S A s.heap H locs) (hl : lv_has ls 4 (lvL ad b i)) (hi : i + 6 ≤ L) (h0 : decode cL_law pc = .ok (.aload_n 0, 1)) (h1 : decode cL_law (pc + 1) = .ok (.iload_n 3, 1)) (h2 : decode cL_law (pc + 2) = .ok (.iconst 1, 1)) (h3 : decode cL_law (pc + 3) = .ok (.iadd, 1)) (h4 : decode cL_law (pc + 4) = .ok (.iaload, 1))
    (kk : W p l e room_1 s m9 #[.ref b] below meth c9 H locs cells slots Q (F0 m9 (pc + 5) ls (.int (xs (i + 1)) :: st))) : W p l e room_1 s m9 #[.ref b] below meth c9 H locs cells slots Q (F0 m9 pc ls st) := by
  obtain ⟨S9, hA, hbA, hbl, hX, hL, hF, hE, hV⟩ := C
  obtain ⟨hx, hb, hml, hown, hts⟩ := id S9
  refine lv_aload_n hx hb h0 rfl (lv_at hl 3 rfl) ?_
  refine lv_iload_n hx hb h1 rfl (lv_at hl 0 rfl) ?_
  refine lv_iconst (v := (1 : Int32)) hx hb h2 (by decide) ?_
  refine lv_iadd hx hb h3 ?_
  have e9 : nn i + (1 : Int32) = nn (i + 1) := nn_add i 1
  rw [e9]
  refine va_sld hx hb hX hbl hbA hS (vp_in_nI (n := i + 1) (by omega) (by omega)) h4 ?_
  have e8 : Int32.toNatClampNeg (nn (i + 1)) = i + 1 := nn_nat (by omega)
  rw [e8]
  exact kk
theorem ld2 (C : Cx p m9 c9 s A D adK adV ad cy ims pst b L xs) (hS : va_S A s.heap H locs) (hl : lv_has ls 4 (lvL ad b i)) (hi : i + 6 ≤ L) (h0 : decode cL_law pc = .ok (.aload_n 0, 1)) (h1 : decode cL_law (pc + 1) = .ok (.iload_n 3, 1)) (h2 : decode cL_law (pc + 2) = .ok (.iconst 2, 1)) (h3 : decode cL_law (pc + 3) = .ok (.iadd, 1)) (h4 : decode cL_law (pc + 4) = .ok (.iaload, 1))
    (kk : W p l e room_1 s m9 #[.ref b] below meth c9 H locs cells slots Q (F0 m9 (pc + 5) ls (.int (xs (i + 2)) :: st))) : W p l e room_1 s m9 #[.ref b] below meth c9 H locs cells slots Q (F0 m9 pc ls st) := by
  obtain ⟨S9, hA, hbA, hbl, hX, hL, hF, hE, hV⟩ := C
  obtain ⟨hx, hb, hml, hown, hts⟩ := id S9
  refine lv_aload_n hx hb h0 rfl (lv_at hl 3 rfl) ?_
  refine lv_iload_n hx hb h1 rfl (lv_at hl 0 rfl) ?_
  refine lv_iconst (v := (2 : Int32)) hx hb h2 (by decide) ?_
  refine lv_iadd hx hb h3 ?_
  have e9 : nn i + (2 : Int32) = nn (i + 2) := nn_add i 2
  rw [e9]
  refine va_sld hx hb hX hbl hbA hS (vp_in_nI (n := i + 2) (by omega) (by omega)) h4 ?_
  have e8 : Int32.toNatClampNeg (nn (i + 2)) = i + 2 := nn_nat (by omega)
  rw [e8]
  exact kk
theorem ld3 (C : Cx p m9 c9 s A D adK adV ad cy ims pst b L xs) (hS : va_S A s.heap H locs) (hl : lv_has ls 4 (lvL ad b i)) (hi : i + 6 ≤ L) (h0 : decode cL_law pc = .ok (.aload_n 0, 1)) (h1 : decode cL_law (pc + 1) = .ok (.iload_n 3, 1)) (h2 : decode cL_law (pc + 2) = .ok (.iconst 3, 1)) (h3 : decode cL_law (pc + 3) = .ok (.iadd, 1)) (h4 : decode cL_law (pc + 4) = .ok (.iaload, 1))
    (kk : W p l e room_1 s m9 #[.ref b] below meth c9 H locs cells slots Q (F0 m9 (pc + 5) ls (.int (xs (i + 3)) :: st))) : W p l e room_1 s m9 #[.ref b] below meth c9 H locs cells slots Q (F0 m9 pc ls st) := by
  obtain ⟨S9, hA, hbA, hbl, hX, hL, hF, hE, hV⟩ := C
  obtain ⟨hx, hb, hml, hown, hts⟩ := id S9
  refine lv_aload_n hx hb h0 rfl (lv_at hl 3 rfl) ?_
  refine lv_iload_n hx hb h1 rfl (lv_at hl 0 rfl) ?_
  refine lv_iconst (v := (3 : Int32)) hx hb h2 (by decide) ?_
  refine lv_iadd hx hb h3 ?_
  have e9 : nn i + (3 : Int32) = nn (i + 3) := nn_add i 3
  rw [e9]
  refine va_sld hx hb hX hbl hbA hS (vp_in_nI (n := i + 3) (by omega) (by omega)) h4 ?_
  have e8 : Int32.toNatClampNeg (nn (i + 3)) = i + 3 := nn_nat (by omega)
  rw [e8]
  exact kk
theorem ld4 (C : Cx p m9 c9 s A D adK adV ad cy ims pst b L xs) (hS : va_S A s.heap H locs) (hl : lv_has ls 4 (lvL ad b i)) (hi : i + 6 ≤ L) (h0 : decode cL_law pc = .ok (.aload_n 0, 1)) (h1 : decode cL_law (pc + 1) = .ok (.iload_n 3, 1)) (h2 : decode cL_law (pc + 2) = .ok (.iconst 4, 1)) (h3 : decode cL_law (pc + 3) = .ok (.iadd, 1)) (h4 : decode cL_law (pc + 4) = .ok (.iaload, 1))
    (kk : W p l e room_1 s m9 #[.ref b] below meth c9 H locs cells slots Q (F0 m9 (pc + 5) ls (.int (xs (i + 4)) :: st))) : W p l e room_1 s m9 #[.ref b] below meth c9 H locs cells slots Q (F0 m9 pc ls st) := by
  obtain ⟨S9, hA, hbA, hbl, hX, hL, hF, hE, hV⟩ := C
  obtain ⟨hx, hb, hml, hown, hts⟩ := id S9
  refine lv_aload_n hx hb h0 rfl (lv_at hl 3 rfl) ?_
  refine lv_iload_n hx hb h1 rfl (lv_at hl 0 rfl) ?_
  refine lv_iconst (v := (4 : Int32)) hx hb h2 (by decide) ?_
  refine lv_iadd hx hb h3 ?_
  have e9 : nn i + (4 : Int32) = nn (i + 4) := nn_add i 4
  rw [e9]
  refine va_sld hx hb hX hbl hbA hS (vp_in_nI (n := i + 4) (by omega) (by omega)) h4 ?_
  have e8 : Int32.toNatClampNeg (nn (i + 4)) = i + 4 := nn_nat (by omega)
  rw [e8]
  exact kk
theorem ld5 (C : Cx p m9 c9 s A D adK adV ad cy ims pst b L xs) (hS : va_S A s.heap H locs) (hl : lv_has ls 4 (lvL ad b i)) (hi : i + 6 ≤ L) (h0 : decode cL_law pc = .ok (.aload_n 0, 1)) (h1 : decode cL_law (pc + 1) = .ok (.iload_n 3, 1)) (h2 : decode cL_law (pc + 2) = .ok (.iconst 5, 1)) (h3 : decode cL_law (pc + 3) = .ok (.iadd, 1)) (h4 : decode cL_law (pc + 4) = .ok (.iaload, 1))
    (kk : W p l e room_1 s m9 #[.ref b] below meth c9 H locs cells slots Q (F0 m9 (pc + 5) ls (.int (xs (i + 5)) :: st))) : W p l e room_1 s m9 #[.ref b] below meth c9 H locs cells slots Q (F0 m9 pc ls st) := by
  obtain ⟨S9, hA, hbA, hbl, hX, hL, hF, hE, hV⟩ := C
  obtain ⟨hx, hb, hml, hown, hts⟩ := id S9
  refine lv_aload_n hx hb h0 rfl (lv_at hl 3 rfl) ?_
  refine lv_iload_n hx hb h1 rfl (lv_at hl 0 rfl) ?_
  refine lv_iconst (v := (5 : Int32)) hx hb h2 (by decide) ?_
  refine lv_iadd hx hb h3 ?_
  have e9 : nn i + (5 : Int32) = nn (i + 5) := nn_add i 5
  rw [e9]
  refine va_sld hx hb hX hbl hbA hS (vp_in_nI (n := i + 5) (by omega) (by omega)) h4 ?_
  have e8 : Int32.toNatClampNeg (nn (i + 5)) = i + 5 := nn_nat (by omega)
  rw [e8]
  exact kk
/-- a step's second argument -/
theorem ldz (C : Cx p m9 c9 s A D adK adV ad cy ims pst b L xs) {v : Int32} (h0 : decode cL_law pc = .ok (.ifCond .eq 7, 3)) (h1 : decode cL_law (pc + 3) = .ok (.iconst 1, 1)) (h2 : decode cL_law (pc + 4) = .ok (.goto 4, 3)) (h3 : decode cL_law (pc + 7) = .ok (.iconst 0, 1)) (h9 : ((pc : Nat) : Int) + 7 = ((pc + 7 : Nat) : Int)) (h8 : ((pc + 4 : Nat) : Int) + 4 = ((pc + 8 : Nat) : Int))
    (kk : W p l e room_1 s m9 #[.ref b] below meth c9 H locs cells slots Q (F0 m9 (pc + 8) ls (.int (if v = 0 then 0 else 1) :: st))) : W p l e room_1 s m9 #[.ref b] below meth c9 H locs cells slots Q (F0 m9 pc ls (.int v :: st)) := by
  obtain ⟨S9, hA, hbA, hbl, hX, hL, hF, hE, hV⟩ := C
  obtain ⟨hx, hb, hml, hown, hts⟩ := id S9
  refine lv_if_eq (tgt := pc + 7) hx hb h0 h9 (fun c => ?_) (fun c => ?_)
  · refine lv_iconst (v := (0 : Int32)) hx hb h3 (by decide) ?_
    rw [if_pos c] at kk
    exact kk
  · refine lv_iconst (v := (1 : Int32)) hx hb h1 (by decide) ?_
    refine lv_goto (tgt := pc + 8) hx hb h2 h8 ?_
    rw [if_neg c] at kk
    exact kk
end
section
variable {D : va_G} {s : State} {bs bs' : Nat → va_W} {m f : Nat} {rls : Nat → Option Nat} {sign clause clauses : Nat → Int32} {rh : Nat → Nat} {ry : Nat → ClassId} {nc ns nt : Nat} {code se te : Nat → Int32} {stk : Nat → Int64} {tp : Int32} {cs : CLS}
theorem BRu.run (h : BRu D s bs m rls sign clause clauses) (hm : m ≤ 6) (hf : f < m) (r1 : rls f = some (rh 0)) (e1 : bs' (40 + f) = cRu rh ry nc code ns se nt te stk tp) (k1 : va_K D vwCl (tRu ry) s) (r2 : RuOK cs) (r3 : RuC cs nc code ns se nt te) (r4 : RuM cs sign clause clauses f) (e : ∀ j, j < 6 → j ≠ f → bs' (40 + j) = bs (40 + j)) : BRu D s bs' m rls sign clause clauses := by
  refine ⟨fun j hj => ?_, fun j h1 h2 => (e j h2 (by omega)).trans (h.2 j h1 h2)⟩
  by_cases h9 : j = f
  · subst h9
    exact ⟨rh, ry, nc, code, ns, se, nt, te, stk, tp, cs, r1, e1, k1, r2, r3, r4⟩
  · obtain ⟨a1, a2, a3, a4, a5, a6, a7, a8, a9, b1, b2, c1, c2, c3⟩ := h.1 j hj
    exact ⟨a1, a2, a3, a4, a5, a6, a7, a8, a9, b1, b2, c1, (e j (by omega) h9).trans c2, c3⟩
end
theorem blk_perm2 {bs : Nat → va_W} {N : Nat} {is : List Nat} (hn : is.Nodup) (hs : ∀ i ∈ is, i < N) : ∃ wr, (bW N bs).Perm (is.flatMap bs ++ wr) ∧ ∀ bs' : Nat → va_W, (∀ j, j < N → j ∉ is → bs' j = bs j) → (wr ++ is.flatMap bs').Perm (bW N bs') := by
  obtain ⟨r, hr, hj⟩ := pk_out is (List.range N) hn List.nodup_range (fun i hi => List.mem_range.mpr (hs i hi))
  refine ⟨r.flatMap bs, ?_, fun bs' he => ?_⟩
  · have := hr.flatMap_right bs
    rwa [List.flatMap_append] at this
  · have := hr.flatMap_right bs'
    rw [List.flatMap_append, fm_congr r (g := bs) (fun j hj9 => he j (List.mem_range.mp (hj j hj9).2) (hj j hj9).1)] at this
    exact (List.perm_append_comm.trans this.symm)
theorem bW_succ {bs : Nat → va_W} {N : Nat} : bW (N + 1) bs = bW N bs ++ bs N := by
  unfold bW
  rw [List.range_succ, List.flatMap_append, List.flatMap_cons, List.flatMap_nil, List.append_nil]
section
variable {p : Program} {l : Launch} {e : Env} {R : Room} {s : State} {m : MethodId} {args : Array Value} {below : List Frame} {meth : Method} {c : Code} {H : Heap} {locs : List Loc} {Q : State → Prop} {cells slots mc ms : Nat}
variable {cc : ByteArray} {pc : Nat} {ls : Array Slot} {rest st0 : List Value} {D : va_G} {A : Nat → Prop} {own C : String} {nL n index maxL b : Nat} {y : MethodName} {bytes : ByteArray} {ret : Option FieldType} {rm : Room} {As : List Value} {Z : va_W → List (ClassId × FieldType) → Int32 → Prop}
/-- a call of a method that makes cells, over some blocks of the world -/
theorem mbQ_T {N : Nat} {bs : Nat → va_W} (L : List (Nat × List (ClassId × FieldType) × va_W × va_W)) (S : CallFix p m c cc nL s args wsL_law own) (hK : va_K D vwCl [] s) (hP : va_P D vwCl (bW N bs) H) (hD : va_D A (bW N bs)) (hS : va_S A s.heap H locs) (hA : ∀ q, s.heap.size ≤ q → A q) {adK adV : Nat → Nat} (hE : SE adK adV A s s.heap) (hV : EvC s)
    {tysC : List (ClassId × FieldType)} {wc : va_W} (hM : MetT l y bytes maxL ret rm D tysC wc (.ref b :: As) adK adV mc ms Z) (hn9 : (L.map Prod.fst).Nodup) (hs9 : ∀ x ∈ L, x.1 < N) (hKL : ∀ x ∈ L, va_K D vwCl x.2.1 s) (hB : ∀ x ∈ L, bs x.1 = x.2.2.1) (hT : L.flatMap (fun x => x.2.1) = tysC) (hC : L.flatMap (fun x => x.2.2.1) = wc)
    (hg : GoodIn wsL_law (wsV own index C y (Cond.code y bytes maxL ret :: wsL_law))) (hrc : rm.cells = mc) (hrs : rm.slots = ms)
    (hd : y.cls = C ∧ y.cls ≠ "java/lang/invoke/MethodHandle" ∧ y.cls ≠ "java/lang/invoke/VarHandle" ∧ (parseMethodDescriptor y.desc).map (fun d => d.parameters.length) = some n) (hR : rm.frames + 1 ≤ R.frames ∧ 8 + (maxL + 11) + rm.locals ≤ R.locals)
    {ci q0 : Nat} {T : u_T} {N9 : Nat} {fs : List Value} (hc : vwCl[ci]? = some (C, T, N9)) (he : wc[q0]? = some (b, .inr (ci, fs)))
    (hn : As.length = n) (hl : ls.size = nL) (hst : st0 = As.reverse ++ .ref b :: rest) (hr8 : (rest.map fun v => v.category).sum ≤ 8) (hdg : decode cc pc = .ok (.invokevirtual index, 3))
    (hf : cells + mc ≤ R.cells ∧ slots + ms ≤ R.slots)
    (kk : ∀ (w1 : va_W) (t1 : List (ClassId × FieldType)) (r : Int32) (H1 : Heap) (locs1 : List Loc), Z w1 t1 r → va_K D vwCl t1 s → (∀ (bs' : Nat → va_W) (ex : va_W), (∀ j, j < N → j ∉ L.map Prod.fst → bs' j = bs j) → w1 = (L.map Prod.fst).flatMap bs' ++ ex → va_P D vwCl (bW N bs' ++ ex) H1 ∧ va_D A (bW N bs' ++ ex)) → va_S A s.heap H1 locs1 → W p l e R s m args below meth c H1 locs1 (cells + mc) (slots + ms) Q (F0 m (pc + 3) ls (.int r :: rest))) : W p l e R s m args below meth c H locs cells slots Q (F0 m pc ls st0) := by
  obtain ⟨wr, hp1, hp2⟩ := blk_perm2 (bs := bs) (N := N) hn9 (fun i hi => by obtain ⟨x, hx, rfl⟩ := List.mem_map.mp hi; exact hs9 x hx)
  have hK1 := kL_all hK hKL
  rw [hT] at hK1
  rw [fmL_congr hB, hC] at hp1
  refine mgT_i (wc := wc) (wr := wr) S hK hK1 (vP_perm hP hp1) (vD_perm hD hp1) hS hA hE hV hM hg hrc hrs hd hR hc he hn hl hst hr8 hdg hf (fun w1 t1 r H1 locs1 hZ hK9 hP1 hD1 hS1 => ?_)
  refine kk w1 t1 r H1 locs1 hZ (vK_sub hK9 (fun q hq => List.mem_append_right _ hq)) (fun bs' ex h1 h2 => ?_) hS1
  have h3 := hp2 bs' h1
  rw [h2, ← List.append_assoc] at hP1 hD1
  have h4 := h3.append_right ex
  exact ⟨vP_perm hP1 h4, vD_perm hD1 h4⟩
end
