/-! the top: blocks, the call over blocks, what holds between two calls of the law -/
def bset (bs : Nat → va_W) (j : Nat) (w : va_W) : Nat → va_W := fun i => if i = j then w else bs i
theorem bset_at {bs : Nat → va_W} {j : Nat} {w : va_W} : bset bs j w j = w := if_pos rfl
theorem bset_ne {bs : Nat → va_W} {j i : Nat} {w : va_W} (h : i ≠ j) : bset bs j w i = bs i := if_neg h
def bsetL (bs : Nat → va_W) : List (Nat × List (ClassId × FieldType) × va_W × va_W) → Nat → va_W
  | [] => bs
  | x :: t => bset (bsetL bs t) x.1 x.2.2.2
theorem bsetL_ne {bs : Nat → va_W} {i : Nat} : ∀ {L : List (Nat × List (ClassId × FieldType) × va_W × va_W)}, i ∉ L.map Prod.fst → bsetL bs L i = bs i
  | [], _ => rfl
  | x :: t, h => by
    rw [List.map_cons] at h
    exact (bset_ne (fun e => h (by rw [e]; exact List.mem_cons_self))).trans (bsetL_ne (fun q => h (List.mem_cons_of_mem _ q)))
theorem bsetL_at {bs : Nat → va_W} : ∀ {L : List (Nat × List (ClassId × FieldType) × va_W × va_W)} {x : Nat × List (ClassId × FieldType) × va_W × va_W}, (L.map Prod.fst).Nodup → x ∈ L → bsetL bs L x.1 = x.2.2.2
  | [], _, _, h => absurd h List.not_mem_nil
  | y :: t, x, hn, h => by
    rw [List.map_cons] at hn
    obtain ⟨h1, h2⟩ := List.nodup_cons.mp hn
    rcases List.mem_cons.mp h with rfl | h
    · exact bset_at
    · exact (bset_ne (fun e => h1 (by rw [← e]; exact List.mem_map_of_mem h))).trans (bsetL_at h2 h)
theorem fmL_congr {α : Type} : ∀ {L : List (Nat × List (ClassId × FieldType) × va_W × va_W)} {f : Nat → List α} {g : Nat × List (ClassId × FieldType) × va_W × va_W → List α}, (∀ x ∈ L, f x.1 = g x) → (L.map Prod.fst).flatMap f = L.flatMap g
  | [], _, _, _ => rfl
  | x :: t, f, g, h => by
    rw [List.map_cons, List.flatMap_cons, List.flatMap_cons, h x List.mem_cons_self, fmL_congr (fun y hy => h y (List.mem_cons_of_mem _ hy))]
theorem kL_all {D : va_G} {s : State} (h0 : va_K D vwCl [] s) : ∀ {L : List (Nat × List (ClassId × FieldType) × va_W × va_W)}, (∀ x ∈ L, va_K D vwCl x.2.1 s) → va_K D vwCl (L.flatMap (fun x => x.2.1)) s
  | [], _ => h0
  | x :: t, h => by
    rw [List.flatMap_cons]
    exact (h x List.mem_cons_self).app (kL_all h0 (fun y hy => h y (List.mem_cons_of_mem _ hy)))
section
variable {p : Program} {l : Launch} {e : Env} {R : Room} {s : State} {m : MethodId} {args : Array Value} {below : List Frame} {meth : Method} {c : Code} {H : Heap} {locs : List Loc} {Q : State → Prop} {cells slots : Nat}
variable {cc : ByteArray} {pc : Nat} {ls : Array Slot} {rest st0 : List Value} {D : va_G} {A : Nat → Prop} {own C : String} {nL n index maxL b : Nat} {y : MethodName} {bytes : ByteArray} {ret : Option FieldType} {rm : Room} {As : List Value}
/-- a call of a method that makes nothing, over some blocks of the world -/
theorem mbQ_i {r : Int32} {N : Nat} {bs : Nat → va_W} (L : List (Nat × List (ClassId × FieldType) × va_W × va_W)) (S : CallFix p m c cc nL s args wsL_law own) (hK : va_K D vwCl [] s) (hP : va_P D vwCl (bW N bs) H) (hD : va_D A (bW N bs)) (hS : va_S A s.heap H locs) (hA : ∀ q, s.heap.size ≤ q → A q)
    {tysC : List (ClassId × FieldType)} {wc w1 : va_W} (hM : MetI l y bytes maxL ret rm D tysC wc w1 (.ref b :: As) r) (hn9 : (L.map Prod.fst).Nodup) (hs9 : ∀ x ∈ L, x.1 < N) (hKL : ∀ x ∈ L, va_K D vwCl x.2.1 s) (hB : ∀ x ∈ L, bs x.1 = x.2.2.1) (hT : L.flatMap (fun x => x.2.1) = tysC) (hC : L.flatMap (fun x => x.2.2.1) = wc) (h1 : L.flatMap (fun x => x.2.2.2) = w1)
    (hg : GoodIn wsL_law (wsV own index C y (Cond.code y bytes maxL ret :: wsL_law))) (hrc : rm.cells = 0) (hrs : rm.slots = 0)
    (hd : y.cls = C ∧ y.cls ≠ "java/lang/invoke/MethodHandle" ∧ y.cls ≠ "java/lang/invoke/VarHandle" ∧ (parseMethodDescriptor y.desc).map (fun d => d.parameters.length) = some n) (hR : rm.frames + 1 ≤ R.frames ∧ 8 + (maxL + 11) + rm.locals ≤ R.locals)
    {ci q0 : Nat} {T : u_T} {N9 : Nat} {fs : List Value} (hc : vwCl[ci]? = some (C, T, N9)) (he : wc[q0]? = some (b, .inr (ci, fs)))
    (hn : As.length = n) (hl : ls.size = nL) (hst : st0 = As.reverse ++ .ref b :: rest) (hr8 : (rest.map fun v => v.category).sum ≤ 8) (hdg : decode cc pc = .ok (.invokevirtual index, 3))
    (hf : cells ≤ R.cells ∧ slots ≤ R.slots)
    (kk : ∀ (H1 : Heap) (locs1 : List Loc), va_P D vwCl (bW N (bsetL bs L)) H1 → va_D A (bW N (bsetL bs L)) → va_S A s.heap H1 locs1 → W p l e R s m args below meth c H1 locs1 cells slots Q (F0 m (pc + 3) ls (.int r :: rest))) : W p l e R s m args below meth c H locs cells slots Q (F0 m pc ls st0) := by
  obtain ⟨wr, hp1, hp2⟩ := blk_perm (bs := bs) (bs' := bsetL bs L) (N := N) hn9 (fun i hi => by obtain ⟨x, hx, rfl⟩ := List.mem_map.mp hi; exact hs9 x hx) (fun j _ hj => bsetL_ne hj)
  have hK1 := kL_all hK hKL
  rw [hT] at hK1
  rw [fmL_congr hB, hC] at hp1
  rw [fmL_congr (fun x hx => bsetL_at hn9 hx), h1] at hp2
  exact mgV_i (wr := wr) (wf := wr ++ w1) S hK1 (vP_perm hP hp1) (vD_perm hD hp1) hS hA hM (List.range tysC.length) (List.range wc.length) ((List.range wr.length).map (fun j => wc.length + j)) (List.range (wr ++ w1).length) (rg_fm _) (rg_map _ _) (rg_map2 _ _) (rg_nd _) (rg_nd2 _ _) (rg_dis _ _) (rg_all _) (rg_nd _) hg hrc hrs hd hR hc he hn hl hst hr8 hdg hf
    (fun H1 locs1 hP1 hD1 hS1 => kk H1 locs1 (vP_perm hP1 hp2) (vD_perm hD1 hp2) hS1)
end
abbrev tLL (y : Nat → ClassId) : List (ClassId × FieldType) := [(y 1, .object "LadderLand$Rule"), (y 2, .object "LadderLand$State"), (y 3, .object "LadderLand$World")]
abbrev tTp (y : Nat → ClassId) : List (ClassId × FieldType) := [(y 1, .int)]
abbrev tRR (y : Nat → ClassId) : List (ClassId × FieldType) := [(y 1, .int), (y 2, .int), (y 3, .int)]
abbrev tSt (y : Nat → ClassId) : List (ClassId × FieldType) := [(y 1, .int), (y 2, .int), (y 3, .int)]
abbrev tW (y : Nat → ClassId) : List (ClassId × FieldType) := [(y 1, .int), (y 2, .int), (y 3, .int), (y 4, .int), (y 5, .int)]
abbrev tLd (y : Nat → ClassId) : List (ClassId × FieldType) := [(y 1, .int), (y 2, .int), (y 3, .int), (y 4, .int), (y 5, .int), (y 6, .int)]
abbrev tH (y : Nat → ClassId) : List (ClassId × FieldType) := [(y 1, .int), (y 2, .int), (y 3, .long)]
abbrev tO (y : Nat → ClassId) : List (ClassId × FieldType) := [(y 1, .int)]
abbrev tPt (y : Nat → ClassId) : List (ClassId × FieldType) := [(y 1, .int), (y 2, .int), (y 3, .int), (y 4, .int), (y 5, .int), (y 6, .int), (y 7, .int)]
abbrev tRu (y : Nat → ClassId) : List (ClassId × FieldType) := [(y 1, .int), (y 2, .int), (y 3, .int), (y 4, .long)]
/-- what is fixed from the constructors on: the kinds of the arrays, where the images and the past worlds are -/
def FK (D : va_G) (s : State) (ad : Nat → Nat → Nat) (cy : Nat → Nat → ClassId) (ims pst : Nat → Option Nat) : Prop :=
  va_K D vwCl [] s ∧ va_K D vwCl (tLL (cy 0)) s ∧ va_K D vwCl (tTp (cy 1)) s ∧ va_K D vwCl (tRR (cy 3)) s ∧ va_K D vwCl (tSt (cy 4)) s ∧ va_K D vwCl (tW (cy 5)) s ∧ va_K D vwCl (tH (cy 6)) s ∧ va_K D vwCl (tO (cy 7)) s ∧ va_K D vwCl (tW (cy 8)) s ∧ va_K D vwCl (tW (cy 11)) s ∧ va_K D vwCl (tM (cy 46)) s ∧
  (∀ k, k < 4 → va_K D vwCl (tSt (cy (12 + k))) s ∧ va_K D vwCl (tW (cy (16 + k))) s ∧ ims k = some (ad (12 + k) 0)) ∧ ∀ k, k < 20 → va_K D vwCl (tW (cy (20 + k))) s ∧ pst k = some (ad (20 + k) 0)
section
variable (D : va_G) (s : State) (ad : Nat → Nat → Nat) (cy : Nat → Nat → ClassId) (ims pst : Nat → Option Nat) (N : Nat) (bs : Nat → va_W)
def BT (bytes : Nat → Int32) (len : Int32) : Prop := ∃ (kd sg ft sa sp : Int32), bs 1 = cTp (ad 1) (cy 1) bytes len kd sg ft sa sp
def BRR : Prop := ∃ (co se te : Nat → Int32) (sz cn vl : Int32), bs 3 = cRR (ad 3) (cy 3) (ad 1 0) co se te sz cn vl
def BNow (fo x notes : Int32) (nh nr nm : Nat → Int32) : Prop := ∃ md : Int32, bs 4 = cSt (ad 4) (cy 4) (ad 5 0) fo x notes nh nr nm md
def BH : Prop := ∃ (br : Int32) (wl de : Nat → Int32) (wo : Nat → Int64), bs 6 = cH (ad 6) (cy 6) br wl de wo
def BO : Prop := ∃ (o1 o2 o3 o4 o5 o6 o7 o8 o9 oa ob : Int32) (cr : Nat → Int32), bs 7 = cO (ad 7) (cy 7) o1 o2 o3 o4 o5 o6 o7 o8 o9 oa ob (ad 6 0) (ad 8 0) cr
def BWj (j : Nat) : Prop := ∃ (q : Nat) (h b : Int32) (r g w k t : Nat → Int32), bs j = cW (ad j) (cy j) q h b r g w k t
def BPt : Prop := ∃ (hp : Nat → Nat) (yp : Nat → ClassId) (n9 : Nat) (ps : Int32) (pf pq : Nat → Int32) (pt pg pl : Int32) (pd pr pc pa pb : Nat → Int32), (n9 = 0 ∨ n9 = 6561) ∧ bs 9 = cPt (ad 9 0) hp yp (ad 5 0) ps n9 pf n9 pq pt pg pl pd pr pc pa pb ∧ va_K D vwCl (tPt yp) s
def BS : Prop := ∃ f : Int32, bs 10 = cSg (ad 10) (cy 10) f (ad 11 0)
/-- a scene: the reference's row, the class's world, its notes and its ladder somewhere among the blocks -/
def Sc (R P : Nat) (S : Nat → Int32) (A : Nat) (hour broken : Int32) (rung grip want slips worn : Nat → Int32) (notes : Int32) (nh nr nm : Nat → Int32) : Prop :=
  ∃ (jl : Nat) (lh : Nat → Nat) (ly : Nat → ClassId) (ru pe sb : Int32) (ro tr wt tl sr sw : Nat → Int32), 47 ≤ jl ∧ jl < N ∧ lh 0 = A ∧ bs jl = cLd lh ly ru pe sb ro tr wt tl sr sw ∧ va_K D vwCl (tLd ly) s ∧ IV R P S ∧ RWd S hour broken rung grip want slips worn ∧ RLd R P S ru pe ro tr wt tl ∧ WTs P S ∧ (0 < R → RBg R P S sb tl sr sw) ∧ (∃ h, h < 1000 ∧ hour = nn h) ∧ RNo S notes nh nr nm
def BPs (R P : Nat) (S w : Nat → Int32) (c nx A : Nat) : Prop :=
  ∃ (pq : Nat → Nat) (ph pb : Nat → Int32) (pr pg pw ps pk : Nat → Nat → Int32), (∀ k, k < 20 → bs (20 + k) = cW (ad (20 + k)) (cy (20 + k)) (pq k) (ph k) (pb k) (pr k) (pg k) (pw k) (ps k) (pk k)) ∧ RPa R P S w c nx ph pb pr pg pw ps pk ∧ ∀ i, i < c → pq (sl nx c i) = A ∧ ∃ h, h < 1000 ∧ ph (sl nx c i) = nn h
def OKf (m : Nat) (fo : Int32) : Prop := fo = -1 ∨ ∃ f, f < m ∧ fo = nn f
def OKx (x : Int32) : Prop := ∃ d, d < 2147483648 ∧ x = nn d
def BIm (m : Nat) (im imF imX imM : Nat → Int32) : Prop :=
  ∀ k, k < 4 → ∃ (iq : Nat) (ifo ix ino : Int32) (inh inr inm : Nat → Int32) (imd ih ib : Int32) (ir ig iw it ik : Nat → Int32), bs (12 + k) = cSt (ad (12 + k)) (cy (12 + k)) (ad (16 + k) 0) ifo ix ino inh inr inm imd ∧ bs (16 + k) = cW (ad (16 + k)) (cy (16 + k)) iq ih ib ir ig iw it ik ∧ imd = imM k ∧ (imd ≠ 0 → ifo = imF k ∧ ix = imX k ∧ OKf m ifo ∧ OKx ix ∧ ∃ R P, Sc D s N bs R P (imS im k) iq ih ib ir ig iw it ik ino inh inr inm)
def BRu (m : Nat) (rls : Nat → Option Nat) (sign clause clauses : Nat → Int32) : Prop :=
  (∀ j, j < m → ∃ (rh : Nat → Nat) (ry : Nat → ClassId) (nc : Nat) (code : Nat → Int32) (ns : Nat) (se : Nat → Int32) (nt : Nat) (te : Nat → Int32) (stk : Nat → Int64) (tp : Int32) (cs : CLS), rls j = some (rh 0) ∧ bs (40 + j) = cRu rh ry nc code ns se nt te stk tp ∧ va_K D vwCl (tRu ry) s ∧ RuOK cs ∧ RuC cs nc code ns se nt te ∧ RuM cs sign clause clauses j) ∧ ∀ j, m ≤ j → j < 6 → bs (40 + j) = []
def BM (m : Nat) (tape : Nat → Int32) (len : Int32) (sign clause clauses S : Nat → Int32) (fo x : Int32) (w : Nat → Int32) (c : Nat) (im imF imX imM : Nat → Int32) : Prop :=
  ∃ (length read : Nat → Int32) (next wrong number text made deep lines : Int32) (opn : Nat → Int32) (opened : Int32) (stack : Nat → Int64) (top : Int32) (word : Nat → Int64) (will moved : Nat → Int32) (broke : Int32) (kept : Nat → Int32) (breakHour : Int32) (far queue : Nat → Int32) (queued : Int32) (onWay : Nat → Int32) (mvP mvK : Int32) (isFit sThen : Nat → Int32) (drawX : Int64), bs 46 = cM (ad 46) (cy 46) tape len (nn m) sign length clause clauses read next wrong number text made deep lines opn opened stack top word S fo x will moved broke w (nn c) kept breakHour far queue queued onWay mvP mvK isFit sThen drawX im imF imX imM
/-- what holds between two calls of the law -/
def Top : Prop :=
  ∃ (m c nx tn R P A : Nat) (rls : Nat → Option Nat) (bytes : Nat → Int32) (len fo x notes : Int32) (nh nr nm : Nat → Int32) (hour broken : Int32) (rung grip want slips worn : Nat → Int32) (tape sign clause clauses S w im imF imX imM : Nat → Int32),
    46 < N ∧ bs 0 = cLL (ad 0) (cy 0) (ad 1 0) (ad 2 0) (ad 3 0) rls (nn m) (ad 4 0) ims pst (nn nx) (nn c) (ad 6 0) (ad 7 0) (ad 9 0) (ad 10 0) ∧ BT ad cy bs bytes len ∧ bs 2 = cLR (ad 2) (cy 2) (ad 1 0) ∧ BRR ad cy bs ∧ BNow ad cy bs fo x notes nh nr nm ∧ bs 5 = cW (ad 5) (cy 5) A hour broken rung grip want slips worn ∧
    BH ad cy bs ∧ BO ad cy bs ∧ BWj ad cy bs 8 ∧ BPt D s ad bs ∧ BS ad cy bs ∧ BWj ad cy bs 11 ∧ Sc D s N bs R P S A hour broken rung grip want slips worn notes nh nr nm ∧ BPs ad cy bs R P S w c nx A ∧ BIm D s ad cy N bs m im imF imX imM ∧ BRu D s bs m rls sign clause clauses ∧ BM ad cy bs m tape len sign clause clauses S fo x w c im imF imX imM ∧
    TPr bytes len tape len tn ∧ m ≤ 6 ∧ OKf m fo ∧ OKx x
end
section
variable {D : va_G} {s : State} {ad : Nat → Nat → Nat} {cy : Nat → Nat → ClassId} {ims pst : Nat → Option Nat} {N N' : Nat} {bs bs' : Nat → va_W}
theorem BT.congr {bytes : Nat → Int32} {len : Int32} (h : BT ad cy bs bytes len) (e : bs' 1 = bs 1) : BT ad cy bs' bytes len := by obtain ⟨_, _, _, _, _, h⟩ := h; exact ⟨_, _, _, _, _, e.trans h⟩
theorem BRR.congr (h : BRR ad cy bs) (e : bs' 3 = bs 3) : BRR ad cy bs' := by obtain ⟨_, _, _, _, _, _, h⟩ := h; exact ⟨_, _, _, _, _, _, e.trans h⟩
theorem BNow.congr {fo x notes : Int32} {nh nr nm : Nat → Int32} (h : BNow ad cy bs fo x notes nh nr nm) (e : bs' 4 = bs 4) : BNow ad cy bs' fo x notes nh nr nm := by obtain ⟨_, h⟩ := h; exact ⟨_, e.trans h⟩
theorem BH.congr (h : BH ad cy bs) (e : bs' 6 = bs 6) : BH ad cy bs' := by obtain ⟨_, _, _, _, h⟩ := h; exact ⟨_, _, _, _, e.trans h⟩
theorem BO.congr (h : BO ad cy bs) (e : bs' 7 = bs 7) : BO ad cy bs' := by obtain ⟨_, _, _, _, _, _, _, _, _, _, _, _, h⟩ := h; exact ⟨_, _, _, _, _, _, _, _, _, _, _, _, e.trans h⟩
theorem BWj.congr {j : Nat} (h : BWj ad cy bs j) (e : bs' j = bs j) : BWj ad cy bs' j := by obtain ⟨_, _, _, _, _, _, _, _, h⟩ := h; exact ⟨_, _, _, _, _, _, _, _, e.trans h⟩
theorem BPt.congr (h : BPt D s ad bs) (e : bs' 9 = bs 9) : BPt D s ad bs' := by obtain ⟨a1, a2, a3, a4, a5, a6, a7, a8, a9, b1, b2, b3, b4, b5, h0, h, h2⟩ := h; exact ⟨a1, a2, a3, a4, a5, a6, a7, a8, a9, b1, b2, b3, b4, b5, h0, e.trans h, h2⟩
theorem BS.congr (h : BS ad cy bs) (e : bs' 10 = bs 10) : BS ad cy bs' := by obtain ⟨_, h⟩ := h; exact ⟨_, e.trans h⟩
theorem BM.congr {m c : Nat} {tape sign clause clauses S w im imF imX imM : Nat → Int32} {len fo x : Int32} (h : BM ad cy bs m tape len sign clause clauses S fo x w c im imF imX imM) (e : bs' 46 = bs 46) : BM ad cy bs' m tape len sign clause clauses S fo x w c im imF imX imM := by
  obtain ⟨_, _, _, _, _, _, _, _, _, _, _, _, _, _, _, _, _, _, _, _, _, _, _, _, _, _, _, _, h⟩ := h
  exact ⟨_, _, _, _, _, _, _, _, _, _, _, _, _, _, _, _, _, _, _, _, _, _, _, _, _, _, _, _, e.trans h⟩
theorem BPs.congr {R P c nx A : Nat} {S w : Nat → Int32} (h : BPs ad cy bs R P S w c nx A) (e : ∀ k, k < 20 → bs' (20 + k) = bs (20 + k)) : BPs ad cy bs' R P S w c nx A := by
  obtain ⟨pq, ph, pb, pr, pg, pw, ps, pk, h1, h2⟩ := h
  exact ⟨pq, ph, pb, pr, pg, pw, ps, pk, fun k hk => (e k hk).trans (h1 k hk), h2⟩
theorem BRu.congr {m : Nat} {rls : Nat → Option Nat} {sign clause clauses : Nat → Int32} (h : BRu D s bs m rls sign clause clauses) (e : ∀ j, j < 6 → bs' (40 + j) = bs (40 + j)) (hm : m ≤ 6) : BRu D s bs' m rls sign clause clauses := by
  refine ⟨fun j hj => ?_, fun j h1 h2 => (e j h2).trans (h.2 j h1 h2)⟩
  obtain ⟨a1, a2, a3, a4, a5, a6, a7, a8, a9, b1, b2, c1, c2, c3⟩ := h.1 j hj
  exact ⟨a1, a2, a3, a4, a5, a6, a7, a8, a9, b1, b2, c1, (e j (by omega)).trans c2, c3⟩
theorem Sc.congr {R P A : Nat} {S : Nat → Int32} {hour broken notes : Int32} {rung grip want slips worn nh nr nm : Nat → Int32} (h : Sc D s N bs R P S A hour broken rung grip want slips worn notes nh nr nm) (hN : N ≤ N') (e : ∀ j, 47 ≤ j → j < N → bs' j = bs j) : Sc D s N' bs' R P S A hour broken rung grip want slips worn notes nh nr nm := by
  obtain ⟨a1, a2, a3, a4, a5, a6, a7, a8, a9, b1, b2, b3, c1, c2, c3, c4, c5⟩ := h
  exact ⟨a1, a2, a3, a4, a5, a6, a7, a8, a9, b1, b2, b3, c1, Nat.lt_of_lt_of_le c2 hN, c3, (e _ c1 c2).trans c4, c5⟩
theorem OKf.mono {m m' : Nat} {fo : Int32} (h : OKf m fo) (hm : m ≤ m') : OKf m' fo := by
  rcases h with h | ⟨f, h1, h2⟩
  · exact Or.inl h
  · exact Or.inr ⟨f, Nat.lt_of_lt_of_le h1 hm, h2⟩
theorem BIm.congr {m m' : Nat} {im imF imX imM : Nat → Int32} (h : BIm D s ad cy N bs m im imF imX imM) (hm : m ≤ m') (hN : N ≤ N') (e1 : ∀ k, k < 8 → bs' (12 + k) = bs (12 + k)) (e2 : ∀ j, 47 ≤ j → j < N → bs' j = bs j) : BIm D s ad cy N' bs' m' im imF imX imM := by
  intro k hk
  obtain ⟨a1, a2, a3, a4, a5, a6, a7, a8, a9, b1, b2, b3, b4, b5, b6, c1, c2, c3, c4⟩ := h k hk
  refine ⟨a1, a2, a3, a4, a5, a6, a7, a8, a9, b1, b2, b3, b4, b5, b6, (e1 k (by omega)).trans c1, ?_, c3, fun h9 => ?_⟩
  · have := e1 (k + 4) (by omega)
    rw [show 12 + (k + 4) = 16 + k by omega] at this
    exact this.trans c2
  · obtain ⟨d1, d2, d3, d4, R, P, d5⟩ := c4 h9
    exact ⟨d1, d2, d3.mono hm, d4, R, P, d5.congr hN e2⟩
end
section
variable {S S' : Nat → Int32} {R P : Nat} {sbr notes : Int32} {told srg swt nh nr nm : Nat → Int32}
theorem RBg.of (hP : P < 5) (h : RBg R P S sbr told srg swt) (e : ∀ k, 62 ≤ k → k < 79 → S' k = S k) : RBg R P S' sbr told srg swt := by
  obtain ⟨⟨b, b1, b2, b3, b4, b5⟩, h2, h3⟩ := h
  refine ⟨⟨b, b1, b2, (e 78 (by omega) (by omega)).trans b3, b4, fun p hp => ?_⟩, fun p hp => ?_, h3⟩
  · obtain ⟨r, r1, r2, r3⟩ := b5 p hp
    exact ⟨r, r1, (e _ (by omega) (by omega)).trans r2, r3⟩
  · obtain ⟨t1, t2, t3, w, w1, w2⟩ := h2 p hp
    exact ⟨t1.trans (e _ (by omega) (by omega)).symm, t2.trans (e _ (by omega) (by omega)).symm, t3.trans (e _ (by omega) (by omega)).symm, w, w1, (e _ (by omega) (by omega)).trans w2⟩
theorem WTs.of (hP : P < 5) (h : WTs P S) (e : ∀ k, 62 ≤ k → k < 79 → S' k = S k) : WTs P S' := fun p hp => by
  obtain ⟨w, w1, w2, w3⟩ := h p hp
  exact ⟨w, w1, w2, (e _ (by omega) (by omega)).trans w3⟩
theorem RNo.of (h : RNo S notes nh nr nm) (e : ∀ k, 79 ≤ k → k < 110 → S' k = S k) : RNo S' notes nh nr nm := by
  obtain ⟨n, h1, h2, h3, h4⟩ := h
  refine ⟨n, h1, h2, (e 109 (by omega) (by omega)).trans h3, fun i hi => ?_⟩
  obtain ⟨a, b, c, d⟩ := h4 i hi
  exact ⟨a.trans (e _ (by omega) (by omega)).symm, b.trans (e _ (by omega) (by omega)).symm, c.trans (e _ (by omega) (by omega)).symm, d⟩
end
section
variable {D : va_G} {s : State} {ad : Nat → Nat → Nat} {cy : Nat → Nat → ClassId} {N : Nat} {bs bs' : Nat → va_W}
variable {S S' w w' : Nat → Int32} {R P A c nx c' nx' q1 : Nat} {hour broken notes hour' broken' notes' ah ab : Int32} {rung grip want slips worn nh nr nm rung' grip' want' slips' worn' nh' nr' nm' ar ag aw tt' ak : Nat → Int32}
/-- a scene after an act: only what moves has moved -/
theorem Sc.act (h : Sc D s N bs R P S A hour broken rung grip want slips worn notes nh nr nm) (hW : RWd S' hour' broken' rung' grip' want' slips' worn') (hI : IV R P S') (hs : St S S') (hh : ∃ h, h < 1000 ∧ hour' = nn h) : Sc D s N bs R P S' A hour' broken' rung' grip' want' slips' worn' notes nh nr nm := by
  obtain ⟨a1, a2, a3, a4, a5, a6, a7, a8, a9, b1, b2, b3, c1, c2, c3, c4, c5, d1, d2, d3, d4, d5, d6, d7⟩ := h
  have hP : P < 5 := d1.1.2.1
  have e : ∀ k, 62 ≤ k → k < 79 → S' k = S k := fun k hk _ => hs.2.2.2 k hk
  exact ⟨a1, a2, a3, a4, a5, a6, a7, a8, a9, b1, b2, b3, c1, c2, c3, c4, c5, hI, hW, d3.st hs d1.1.1, d4.of hP e, fun h0 => (d5 h0).of hP e, hh, d7.of (fun k hk _ => hs.2.2.2 k (by omega))⟩
/-- a scene with other notes -/
theorem Sc.note (h : Sc D s N bs R P S A hour broken rung grip want slips worn notes nh nr nm) (e : Lo S S') (hN : RNo S' notes' nh' nr' nm') : Sc D s N bs R P S' A hour broken rung grip want slips worn notes' nh' nr' nm' := by
  obtain ⟨a1, a2, a3, a4, a5, a6, a7, a8, a9, b1, b2, b3, c1, c2, c3, c4, c5, d1, d2, d3, d4, d5, d6, d7⟩ := h
  have hP : P < 5 := d1.1.2.1
  have e9 : ∀ k, 62 ≤ k → k < 79 → S' k = S k := fun k _ hk => e k hk
  exact ⟨a1, a2, a3, a4, a5, a6, a7, a8, a9, b1, b2, b3, c1, c2, c3, c4, c5, d1.lo e, d2.lo e, d3.lo d1.1.1 hP e, d4.lo hP e, fun h0 => (d5 h0).of hP e9, d6, hN⟩
/-- a scene copied -/
theorem Sc.copy (h : Sc D s N bs R P S A hour broken rung grip want slips worn notes nh nr nm) (e : Lo S S') (hW : RWd S' hour broken rung' grip' want' slips' worn') (hN : RNo S' notes nh' nr' nm') : Sc D s N bs R P S' A hour broken rung' grip' want' slips' worn' notes nh' nr' nm' := by
  obtain ⟨a1, a2, a3, a4, a5, a6, a7, a8, a9, b1, b2, b3, c1, c2, c3, c4, c5, d1, d2, d3, d4, d5, d6, d7⟩ := h
  have hP : P < 5 := d1.1.2.1
  have e9 : ∀ k, 62 ≤ k → k < 79 → S' k = S k := fun k _ hk => e k hk
  exact ⟨a1, a2, a3, a4, a5, a6, a7, a8, a9, b1, b2, b3, c1, c2, c3, c4, c5, d1.lo e, hW, d3.lo d1.1.1 hP e, d4.lo hP e, fun h0 => (d5 h0).of hP e9, d6, hN⟩
def updQ (f : Nat → Nat) (i x : Nat) : Nat → Nat := fun j => if j = i then x else f j
theorem updQ_at {f : Nat → Nat} {i x : Nat} : updQ f i x i = x := if_pos rfl
theorem updQ_ne {f : Nat → Nat} {i j x : Nat} (h : j ≠ i) : updQ f i x j = f j := if_neg h
/-- the kept acts' ladders and hours after an act -/
theorem PQ_act {pq : Nat → Nat} {ph : Nat → Int32} (hn : nx < 20) (h : ∀ i, i < c → pq (sl nx c i) = A ∧ ∃ h, h < 1000 ∧ ph (sl nx c i) = nn h) (hk : KQ c nx A (pq nx) c' nx' q1 hour (ph nx) ah) (hh : ∃ h, h < 1000 ∧ hour = nn h) : ∀ i, i < c' → updQ pq nx q1 (sl nx' c' i) = A ∧ ∃ h, h < 1000 ∧ upd ph nx ah (sl nx' c' i) = nn h := by
  rcases hk with ⟨e1, e2, e3, e4⟩ | ⟨e1, e2, e3, ⟨hc, e4⟩ | ⟨hc, e4⟩⟩
  · subst e1 e2 e3 e4
    intro i hi
    obtain ⟨g1, g2⟩ := h i hi
    by_cases h9 : sl nx' c' i = nx'
    · rw [h9] at g1 g2 ⊢; rw [updQ_at, upd_at]; exact ⟨g1, g2⟩
    · rw [updQ_ne h9, upd_ne h9]; exact ⟨g1, g2⟩
  · subst e1 e2 e3 e4
    intro i hi
    by_cases h9 : i < c
    · obtain ⟨q1, q2⟩ := sl_up hc hn h9
      rw [q1, updQ_ne q2, upd_ne q2]; exact h i h9
    · obtain rfl : i = c := by omega
      rw [sl_top hc hn, updQ_at, upd_at]; exact ⟨rfl, hh⟩
  · subst e1 e2 e3 e4 hc
    intro i hi
    by_cases h9 : i < 19
    · obtain ⟨q1, q2⟩ := sl_full hn h9
      rw [q1, updQ_ne q2, upd_ne q2]; exact h (i + 1) (by omega)
    · obtain rfl : i = 19 := by omega
      rw [sl_top (c := 19) (by omega) hn, updQ_at, upd_at]; exact ⟨rfl, hh⟩
theorem BPs.mk' {pq : Nat → Nat} {ph pb : Nat → Int32} {pr pg pw ps pk : Nat → Nat → Int32} (hpb : ∀ k, k < 20 → bs (20 + k) = cW (ad (20 + k)) (cy (20 + k)) (pq k) (ph k) (pb k) (pr k) (pg k) (pw k) (ps k) (pk k)) (e1 : bs' (20 + nx) = cW (ad (20 + nx)) (cy (20 + nx)) q1 ah ab ar ag aw tt' ak) (e2 : ∀ k, k < 20 → k ≠ nx → bs' (20 + k) = bs (20 + k))
    (hR : RPa R P S' w' c' nx' (upd ph nx ah) (upd pb nx ab) (updF pr nx ar) (updF pg nx ag) (updF pw nx aw) (updF ps nx tt') (updF pk nx ak)) (hq : ∀ i, i < c' → updQ pq nx q1 (sl nx' c' i) = A ∧ ∃ h, h < 1000 ∧ upd ph nx ah (sl nx' c' i) = nn h) : BPs ad cy bs' R P S' w' c' nx' A := by
  refine ⟨updQ pq nx q1, _, _, _, _, _, _, _, fun k hk => ?_, hR, hq⟩
  by_cases h : k = nx
  · subst h
    rw [e1, updQ_at, upd_at, upd_at, updF_at, updF_at, updF_at, updF_at, updF_at]
  · rw [e2 k hk h, hpb k hk, updQ_ne h, upd_ne h, upd_ne h, updF_ne h, updF_ne h, updF_ne h, updF_ne h, updF_ne h]
end
