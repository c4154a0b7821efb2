/-! the world as blocks: a call takes some blocks, the rest stands as it is -/
section
variable {D : va_G} {cl : List vw_C} {A : Nat → Prop} {H : Heap}
theorem vP_iff {ws : va_W} : va_P D cl ws H ↔ ∀ q ∈ ws, va_at D cl q H :=
  ⟨fun h q hq => by obtain ⟨i, hi⟩ := List.mem_iff_getElem?.mp hq; exact h i q hi, fun h _ q hk => h q (List.mem_of_getElem? hk)⟩
theorem vP_perm {ws ws' : va_W} (h : va_P D cl ws H) (hp : ws.Perm ws') : va_P D cl ws' H := vP_iff.mpr fun q hq => vP_iff.mp h q (hp.mem_iff.mpr hq)
theorem vD_iff {ws : va_W} : va_D A ws ↔ (ws.map Prod.fst).Nodup ∧ ∀ q ∈ ws, A q.1 := by
  constructor
  · intro h
    refine ⟨?_, fun q hq => by obtain ⟨i, hi⟩ := List.mem_iff_getElem?.mp hq; exact h.2 i q hi⟩
    refine List.pairwise_iff_getElem.mpr ?_
    intro i j hi hj hij he
    rw [List.length_map] at hi hj
    rw [List.getElem_map, List.getElem_map] at he
    have := h.1 i j _ _ (List.getElem?_eq_getElem hi) (List.getElem?_eq_getElem hj) he
    omega
  · intro h
    refine ⟨?_, fun _ q hk => h.2 q (List.mem_of_getElem? hk)⟩
    intro i j x y hx hy hxy
    have h1 : (ws.map Prod.fst)[i]? = some x.1 := by rw [List.getElem?_map, hx]; rfl
    have h2 : (ws.map Prod.fst)[j]? = some y.1 := by rw [List.getElem?_map, hy]; rfl
    have hi : i < (ws.map Prod.fst).length := by rw [List.length_map]; exact (List.getElem?_eq_some_iff.mp hx).1
    exact (List.getElem?_inj hi h.1).mp (by rw [h1, h2, hxy])
theorem vD_perm {ws ws' : va_W} (h : va_D A ws) (hp : ws.Perm ws') : va_D A ws' := by
  obtain ⟨h1, h2⟩ := vD_iff.mp h
  exact vD_iff.mpr ⟨(hp.map Prod.fst).nodup_iff.mp h1, fun q hq => h2 q (hp.mem_iff.mpr hq)⟩
theorem vK_sub {t t' : List (ClassId × FieldType)} {s : State} (h : va_K D cl t s) (hs : ∀ q ∈ t', q ∈ t) : va_K D cl t' s := by
  refine ⟨h.1, fun k q hk => ?_⟩
  obtain ⟨i, hi⟩ := List.mem_iff_getElem?.mp (hs q (List.mem_of_getElem? hk))
  exact h.2 i q hi
theorem nd_iff : ∀ (l : List Nat), va_nd l = true ↔ l.Nodup
  | [] => by simp [va_nd]
  | a :: l => by rw [List.nodup_cons, ← nd_iff l]; simp [va_nd]
theorem rg_map {α : Type} (w r : List α) : (List.range w.length).map (fun i => (w ++ r)[i]?) = w.map some := by
  refine List.ext_getElem? fun i => ?_
  rw [List.getElem?_map, List.getElem?_map]
  by_cases h : i < w.length
  · rw [List.getElem?_range h]
    show some ((w ++ r)[i]?) = _
    rw [List.getElem?_append_left h, List.getElem?_eq_getElem h]; rfl
  · rw [List.getElem?_eq_none (by rw [List.length_range]; omega), List.getElem?_eq_none (by omega)]; rfl
theorem rg_map2 {α : Type} (w r : List α) : ((List.range r.length).map (fun j => w.length + j)).map (fun i => (w ++ r)[i]?) = r.map some := by
  rw [List.map_map]
  refine List.ext_getElem? fun i => ?_
  rw [List.getElem?_map, List.getElem?_map]
  by_cases h : i < r.length
  · rw [List.getElem?_range h]
    show some ((w ++ r)[w.length + i]?) = _
    rw [List.getElem?_append_right (by omega), show w.length + i - w.length = i by omega, List.getElem?_eq_getElem h]; rfl
  · rw [List.getElem?_eq_none (by rw [List.length_range]; omega), List.getElem?_eq_none (by omega)]; rfl
theorem rg_all {α : Type} (w : List α) : (List.range w.length).map (fun i => w[i]?) = w.map some := by
  have := rg_map w []
  rwa [List.append_nil] at this
theorem rg_fm {α : Type} (w : List α) : (List.range w.length).filterMap (fun i => w[i]?) = w := by
  have e : (List.range w.length).filterMap (fun i => w[i]?) = ((List.range w.length).map (fun i => w[i]?)).filterMap id := by rw [List.filterMap_map]; rfl
  rw [e, rg_all, List.filterMap_map]
  simp
theorem rg_nd (n : Nat) : va_nd (List.range n) = true := (nd_iff _).mpr List.nodup_range
theorem rg_nd2 (n k : Nat) : va_nd ((List.range n).map (fun j => k + j)) = true := (nd_iff _).mpr (by
  refine List.pairwise_map.mpr (List.Pairwise.imp ?_ (List.nodup_range (n := n)))
  intro a b h e
  exact h (by omega))
theorem rg_dis (n m : Nat) : ∀ i ∈ (List.range n).map (fun j => m + j), i ∉ List.range m := by
  intro i hi hj
  obtain ⟨j, -, rfl⟩ := List.mem_map.mp hi
  have := List.mem_range.mp hj
  omega
/-- some of a list's elements, put ahead of the others -/
theorem pk_out : ∀ (is l : List Nat), is.Nodup → l.Nodup → (∀ i ∈ is, i ∈ l) → ∃ r, l.Perm (is ++ r) ∧ ∀ j ∈ r, j ∉ is ∧ j ∈ l
  | [], l, _, _, _ => ⟨l, List.Perm.refl _, fun j hj => ⟨List.not_mem_nil, hj⟩⟩
  | a :: t, l, hn, hl, hs => by
    obtain ⟨h1, h2⟩ := List.nodup_cons.mp hn
    have ha := hs a List.mem_cons_self
    have hp := List.perm_cons_erase ha
    have hne := hl.erase a
    obtain ⟨r, hr, hj⟩ := pk_out t (l.erase a) h2 hne (fun i hi => (List.mem_erase_of_ne (show i ≠ a from fun e => h1 (by rw [← e]; exact hi))).mpr (hs i (List.mem_cons_of_mem _ hi)))
    refine ⟨r, hp.trans (hr.cons a), fun j hj9 => ?_⟩
    obtain ⟨q1, q2⟩ := hj j hj9
    have q3 : j ∈ l := List.mem_of_mem_erase q2
    refine ⟨fun h => ?_, q3⟩
    rcases List.mem_cons.mp h with rfl | h
    · exact (List.Nodup.not_mem_erase hl) q2
    · exact q1 h
theorem fm_congr {α : Type} {f g : Nat → List α} : ∀ (l : List Nat), (∀ j ∈ l, f j = g j) → l.flatMap f = l.flatMap g
  | [], _ => rfl
  | a :: l, h => by rw [List.flatMap_cons, List.flatMap_cons, h a List.mem_cons_self, fm_congr l (fun j hj => h j (List.mem_cons_of_mem _ hj))]
/-- the world: blocks 0 .. N-1 -/
def bW (N : Nat) (bs : Nat → va_W) : va_W := (List.range N).flatMap bs
def bT (N : Nat) (ty : Nat → List (ClassId × FieldType)) : List (ClassId × FieldType) := (List.range N).flatMap ty
theorem blk_perm {bs bs' : Nat → va_W} {N : Nat} {is : List Nat} (hn : is.Nodup) (hs : ∀ i ∈ is, i < N) (he : ∀ j, j < N → j ∉ is → bs' j = bs j) : ∃ wr, (bW N bs).Perm (is.flatMap bs ++ wr) ∧ (wr ++ is.flatMap bs').Perm (bW N bs') := by
  obtain ⟨r, hr, hj⟩ := pk_out is (List.range N) hn List.nodup_range (fun i hi => List.mem_range.mpr (hs i hi))
  refine ⟨r.flatMap bs, ?_, ?_⟩
  · have := hr.flatMap_right bs
    rwa [List.flatMap_append] at this
  · have := hr.flatMap_right bs'
    rw [List.flatMap_append, fm_congr r (g := bs) (fun j hj9 => he j (List.mem_range.mp (hj j hj9).2) (hj j hj9).1)] at this
    exact (List.perm_append_comm.trans this.symm)
theorem blk_K {ty : Nat → List (ClassId × FieldType)} {N : Nat} {is : List Nat} {s : State} (h : va_K D cl (bT N ty) s) (hs : ∀ i ∈ is, i < N) : va_K D cl (is.flatMap ty) s :=
  vK_sub h fun q hq => by
    obtain ⟨i, hi, hq⟩ := List.mem_flatMap.mp hq
    exact List.mem_flatMap.mpr ⟨i, List.mem_range.mpr (hs i hi), hq⟩
end
section
variable {p : Program} {l : Launch} {e : Env} {R : Room} {s : State} {m : MethodId} {args : Array Value} {below : List Frame} {meth : Method} {c : Code} {H : Heap} {locs : List Loc} {Q : State → Prop} {cells slots : Nat}
variable {cc : ByteArray} {pc : Nat} {ls : Array Slot} {rest st0 : List Value} {D : va_G} {A : Nat → Prop} {own C : String} {nL n index maxL b : Nat} {y : MethodName} {bytes : ByteArray} {ret : Option FieldType} {rm : Room} {As : List Value}
/-- a call of a method that makes nothing, over some blocks of the world -/
theorem mbV_i {r : Int32} {N : Nat} {bs bs' : Nat → va_W} {ty : Nat → List (ClassId × FieldType)} (is : List Nat) (S : CallFix p m c cc nL s args wsL_law own) (hK : va_K D vwCl (bT N ty) s) (hP : va_P D vwCl (bW N bs) H) (hD : va_D A (bW N bs)) (hS : va_S A s.heap H locs) (hA : ∀ q, s.heap.size ≤ q → A q)
    {tysC : List (ClassId × FieldType)} {wc w1 : va_W} (hM : MetI l y bytes maxL ret rm D tysC wc w1 (.ref b :: As) r) (hn9 : is.Nodup) (hs9 : ∀ i ∈ is, i < N) (he9 : ∀ j, j < N → j ∉ is → bs' j = bs j) (hT : is.flatMap ty = tysC) (hC : is.flatMap bs = wc) (h1 : is.flatMap bs' = w1)
    (hg : GoodIn wsL_law (wsV own index C y (Cond.code y bytes maxL ret :: wsL_law))) (hrc : rm.cells = 0) (hrs : rm.slots = 0)
    (hd : y.cls = C ∧ y.cls ≠ "java/lang/invoke/MethodHandle" ∧ y.cls ≠ "java/lang/invoke/VarHandle" ∧ (parseMethodDescriptor y.desc).map (fun d => d.parameters.length) = some n) (hR : rm.frames + 1 ≤ R.frames ∧ 8 + (maxL + 11) + rm.locals ≤ R.locals)
    {ci q0 : Nat} {T : u_T} {N9 : Nat} {fs : List Value} (hc : vwCl[ci]? = some (C, T, N9)) (he : wc[q0]? = some (b, .inr (ci, fs)))
    (hn : As.length = n) (hl : ls.size = nL) (hst : st0 = As.reverse ++ .ref b :: rest) (hr8 : (rest.map fun v => v.category).sum ≤ 8) (hdg : decode cc pc = .ok (.invokevirtual index, 3))
    (hf : cells ≤ R.cells ∧ slots ≤ R.slots)
    (kk : ∀ (H1 : Heap) (locs1 : List Loc), va_P D vwCl (bW N bs') H1 → va_D A (bW N bs') → va_S A s.heap H1 locs1 → W p l e R s m args below meth c H1 locs1 cells slots Q (F0 m (pc + 3) ls (.int r :: rest))) : W p l e R s m args below meth c H locs cells slots Q (F0 m pc ls st0) := by
  obtain ⟨wr, hp1, hp2⟩ := blk_perm hn9 hs9 he9
  rw [hC] at hp1
  rw [h1] at hp2
  have hK1 := blk_K (is := is) hK hs9
  rw [hT] at hK1
  exact mgV_i (wr := wr) (wf := wr ++ w1) S hK1 (vP_perm hP hp1) (vD_perm hD hp1) hS hA hM (List.range tysC.length) (List.range wc.length) ((List.range wr.length).map (fun j => wc.length + j)) (List.range (wr ++ w1).length) (rg_fm _) (rg_map _ _) (rg_map2 _ _) (rg_nd _) (rg_nd2 _ _) (rg_dis _ _) (rg_all _) (rg_nd _) hg hrc hrs hd hR hc he hn hl hst hr8 hdg hf
    (fun H1 locs1 hP1 hD1 hS1 => kk H1 locs1 (vP_perm hP1 hp2) (vD_perm hD1 hp2) hS1)
end
