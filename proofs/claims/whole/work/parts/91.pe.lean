/-! constructors over a world whose other cells stand ahead -/
section
variable {p : Program} {l : Launch} {e : Env} {R : Room} {s : State} {m : MethodId} {args : Array Value} {below : List Frame} {meth : Method} {c : Code} {H : Heap} {locs : List Loc} {Q : State → Prop} {cells slots mc ms : Nat}
variable {cc : ByteArray} {pc : Nat} {ls : Array Slot} {rest st0 : List Value} {D : va_G} {A : Nat → Prop} {tys : List (ClassId × FieldType)} {wc wr : va_W} {own : String} {nL n index maxL b : Nat} {y : MethodName} {bytes : ByteArray} {rm : Room} {As : List Value} {Z : va_W → List (ClassId × FieldType) → Prop}
theorem rg_dis2 (n m : Nat) : ∀ i ∈ List.range m, i ∉ (List.range n).map (fun j => m + j) := fun i hi hj => rg_dis n m i hj hi
theorem mIb (S : CallFix p m c cc nL s args wsL_law own) (hK : va_K D vwCl tys s) (hP : va_P D vwCl (wr ++ wc) H) (hD : va_D A (wr ++ wc)) (hS : va_S A s.heap H locs) (hA : ∀ q, s.heap.size ≤ q → A q)
    (hM : MetC l y bytes maxL rm D [] wc (.ref b :: As) (fun _ => True) mc ms Z)
    (hcode : Cond.code y bytes maxL none ∈ wsL_law) (hini : Cond.initialized y.cls ∈ wsL_law) (hlink : Cond.methodLink own index y ∈ wsL_law) (hinst : Cond.instanceMethod y ∈ wsL_law) (hname : y.name = "<init>") (hrc : rm.cells = mc) (hrs : rm.slots = ms)
    (hd : y.cls ≠ "java/lang/invoke/MethodHandle" ∧ y.cls ≠ "java/lang/invoke/VarHandle" ∧ (parseMethodDescriptor y.desc).map (fun d => d.parameters.length) = some n) (hR : rm.frames + 1 ≤ R.frames ∧ 8 + (maxL + 11) + rm.locals ≤ R.locals)
    (hn : As.length = n) (hl : ls.size = nL) (hst : st0 = As.reverse ++ .ref b :: rest) (hr8 : (rest.map fun v => v.category).sum ≤ 8) (hdg : decode cc pc = .ok (.invokespecial index, 3)) (hf : cells + mc ≤ R.cells ∧ slots + ms ≤ R.slots)
    (kk : ∀ (w1 : va_W) (t1 : List (ClassId × FieldType)) (H1 : Heap) (locs1 : List Loc), Z w1 t1 → va_K D vwCl (tys ++ t1) s → va_P D vwCl (wr ++ w1) H1 → va_D A (wr ++ w1) → va_S A s.heap H1 locs1 → W p l e R s m args below meth c H1 locs1 (cells + mc) (slots + ms) Q (F0 m (pc + 3) ls rest)) : W p l e R s m args below meth c H locs cells slots Q (F0 m pc ls st0) :=
  mI S hK hP hD hS hA hM [] ((List.range wc.length).map (fun j => wr.length + j)) (List.range wr.length) rfl (rg_map2 _ _) (rg_map _ _) (rg_nd2 _ _) (rg_nd _) (rg_dis2 _ _) hcode hini hlink hinst hname hrc hrs hd hR hn hl hst hr8 hdg hf kk
theorem mINb {host : String} (S : CallFix p m c cc nL s args wsL_law own) (hK : va_K D vwCl tys s) (hP : va_P D vwCl (wr ++ wc) H) (hD : va_D A (wr ++ wc)) (hS : va_S A s.heap H locs) (hA : ∀ q, s.heap.size ≤ q → A q)
    (hM : MetC l y bytes maxL rm D [] wc (.ref b :: As) (fun _ => True) mc ms Z)
    (hcode : Cond.code y bytes maxL none ∈ wsL_law) (hini : Cond.initialized y.cls ∈ wsL_law) (hlink : va_Nw (.methodLinkNest own index y host) s) (hinst : Cond.instanceMethod y ∈ wsL_law) (hname : y.name = "<init>") (hrc : rm.cells = mc) (hrs : rm.slots = ms)
    (hd : y.cls ≠ "java/lang/invoke/MethodHandle" ∧ y.cls ≠ "java/lang/invoke/VarHandle" ∧ (parseMethodDescriptor y.desc).map (fun d => d.parameters.length) = some n) (hR : rm.frames + 1 ≤ R.frames ∧ 8 + (maxL + 11) + rm.locals ≤ R.locals)
    (hn : As.length = n) (hl : ls.size = nL) (hst : st0 = As.reverse ++ .ref b :: rest) (hr8 : (rest.map fun v => v.category).sum ≤ 8) (hdg : decode cc pc = .ok (.invokespecial index, 3)) (hf : cells + mc ≤ R.cells ∧ slots + ms ≤ R.slots)
    (kk : ∀ (w1 : va_W) (t1 : List (ClassId × FieldType)) (H1 : Heap) (locs1 : List Loc), Z w1 t1 → va_K D vwCl (tys ++ t1) s → va_P D vwCl (wr ++ w1) H1 → va_D A (wr ++ w1) → va_S A s.heap H1 locs1 → W p l e R s m args below meth c H1 locs1 (cells + mc) (slots + ms) Q (F0 m (pc + 3) ls rest)) : W p l e R s m args below meth c H locs cells slots Q (F0 m pc ls st0) :=
  mIN S hK hP hD hS hA hM [] ((List.range wc.length).map (fun j => wr.length + j)) (List.range wr.length) rfl (rg_map2 _ _) (rg_map _ _) (rg_nd2 _ _) (rg_nd _) (rg_dis2 _ _) hcode hini hlink hinst hname hrc hrs hd hR hn hl hst hr8 hdg hf kk
end
/-- a new State over the ladder at b1, its own cells at A1, its World's at A2 -/
def kSt (b1 : Nat) (A1 : Nat → Nat) (C1 : Nat → ClassId) (A2 : Nat → Nat) (C2 : Nat → ClassId) : va_W :=
  cSt A1 C1 (A2 0) (-1) 0 0 (fun _ => 0) (fun _ => 0) (fun _ => 0) 0 ++ cW A2 C2 b1 0 0 (fun _ => 0) (fun _ => 0) (fun _ => 0) (fun _ => 0) (fun _ => 0)
def kSt_t (C1 C2 : Nat → ClassId) : List (ClassId × FieldType) := [(C1 1, .int), (C1 2, .int), (C1 3, .int), (C2 1, .int), (C2 2, .int), (C2 3, .int), (C2 4, .int), (C2 5, .int)]
def kWo (b1 : Nat) (A2 : Nat → Nat) (C2 : Nat → ClassId) : va_W := cW A2 C2 b1 0 0 (fun _ => 0) (fun _ => 0) (fun _ => 0) (fun _ => 0) (fun _ => 0)
def kWo_t (C2 : Nat → ClassId) : List (ClassId × FieldType) := [(C2 1, .int), (C2 2, .int), (C2 3, .int), (C2 4, .int), (C2 5, .int)]
def ff {α : Type} (f : Nat → α) (i : Nat) (x : α) : Nat → α := fun j => if j = i then x else f j
theorem ff_at {α : Type} {f : Nat → α} {i : Nat} {x : α} : ff f i x i = x := if_pos rfl
theorem ff_ne {α : Type} {f : Nat → α} {i j : Nat} {x : α} (h : j ≠ i) : ff f i x j = f j := if_neg h
theorem apn {α : Type} (a b c d : List α) : a ++ (b ++ (c ++ d)) = a ++ (b ++ c) ++ d := by rw [← List.append_assoc b, List.append_assoc a]
abbrev rm_i11 : Room := { frames := 3, cells := 240, slots := 2600, locals := 70 }
set_option maxHeartbeats 4000000 in
set_option maxRecDepth 100000 in
theorem i11_images {l : Launch} {D : va_G} {p : Program} {e : Env} {s : State} {m : MethodId} {args : Array Value} {below : List Frame} {meth : Method} {c : Code} {A : Nat → Prop} {Q : State → Prop} {a0 b1 q1 q2 c0 s0 : Nat} {cR cI : ClassId} {fs : List Value} {R0 : va_W} {T0 : List (ClassId × FieldType)} {rls : Nat → Option Nat}
    (S : CallFix p m c cX11_init 3 s args wsL_law RX11) (hA : ∀ q, s.heap.size ≤ q → A q) (hfs : fs[6]? = some (.ref q2)) (hI : (cI, FieldType.object "LadderLand$State") ∈ T0) (hc0 : c0 + 40 ≤ 240) (hs0 : s0 + 284 ≤ 2600)
    (kk : ∀ (ls : Array Slot) (H : Heap) (locs : List Loc) (im : Nat → Option Nat) (A1 : Nat → Nat → Nat) (C1 : Nat → Nat → ClassId) (A2 : Nat → Nat → Nat) (C2 : Nat → Nat → ClassId), lv_has ls 3 [(2, .int 4), (0, .ref a0), (1, .ref b1)] → (∀ k, k < 4 → im k = some (A1 k 0)) → va_K D vwCl (T0 ++ (List.range 4).flatMap (fun k => kSt_t (C1 k) (C2 k))) s → va_P D vwCl ([(a0, .inr (11, fs)), (q1, .inl (cR, 6, .inr (.inr (.inr (.inr rls))))), (q2, .inl (cI, 4, .inr (.inr (.inr (.inr im)))))] ++ (R0 ++ (List.range 4).flatMap (fun k => kSt b1 (A1 k) (C1 k) (A2 k) (C2 k)))) H → va_D A ([(a0, .inr (11, fs)), (q1, .inl (cR, 6, .inr (.inr (.inr (.inr rls))))), (q2, .inl (cI, 4, .inr (.inr (.inr (.inr im)))))] ++ (R0 ++ (List.range 4).flatMap (fun k => kSt b1 (A1 k) (C1 k) (A2 k) (C2 k)))) → va_S A s.heap H locs → W p l e rm_i11 s m args below meth c H locs (c0 + 40) (s0 + 284) Q (F0 m 109 ls [])) :
    ∀ (d i : Nat), i + d = 4 → ∀ (ls : Array Slot) (H : Heap) (locs : List Loc) (im : Nat → Option Nat) (A1 : Nat → Nat → Nat) (C1 : Nat → Nat → ClassId) (A2 : Nat → Nat → Nat) (C2 : Nat → Nat → ClassId), lv_has ls 3 [(2, .int (nn i)), (0, .ref a0), (1, .ref b1)] → (∀ k, k < i → im k = some (A1 k 0)) → va_K D vwCl (T0 ++ (List.range i).flatMap (fun k => kSt_t (C1 k) (C2 k))) s → va_P D vwCl ([(a0, .inr (11, fs)), (q1, .inl (cR, 6, .inr (.inr (.inr (.inr rls))))), (q2, .inl (cI, 4, .inr (.inr (.inr (.inr im)))))] ++ (R0 ++ (List.range i).flatMap (fun k => kSt b1 (A1 k) (C1 k) (A2 k) (C2 k)))) H → va_D A ([(a0, .inr (11, fs)), (q1, .inl (cR, 6, .inr (.inr (.inr (.inr rls))))), (q2, .inl (cI, 4, .inr (.inr (.inr (.inr im)))))] ++ (R0 ++ (List.range i).flatMap (fun k => kSt b1 (A1 k) (C1 k) (A2 k) (C2 k)))) → va_S A s.heap H locs → W p l e rm_i11 s m args below meth c H locs (c0 + 10 * i) (s0 + 71 * i) Q (F0 m 84 ls []) := by
  obtain ⟨hx, hb, hml, hown, hts⟩ := id S
  intro d
  induction d with
  | zero =>
    intro i hi ls H locs im A1 C1 A2 C2 hl him hK hP hD hS
    obtain rfl : i = 4 := by omega
    refine lv_iload_n hx hb dX11_init_84 rfl (lv_at hl 0 rfl) ?_
    refine lv_iconst (v := (4 : Int32)) hx hb dX11_init_85 (by decide) ?_
    refine lv_icmp_ge (tgt := 109) hx hb dX11_init_86 rfl (fun _ => ?_) (fun c9 => absurd (by decide) c9)
    exact kk ls H locs im A1 C1 A2 C2 hl him hK hP hD hS
  | succ d ih =>
    intro i hi ls H locs im A1 C1 A2 C2 hl him hK hP hD hS
    have hi4 : i < 4 := by omega
    refine lv_iload_n hx hb dX11_init_84 rfl (lv_at hl 0 rfl) ?_
    refine lv_iconst (v := (4 : Int32)) hx hb dX11_init_85 (by decide) ?_
    refine lv_icmp_ge (tgt := 109) hx hb dX11_init_86 rfl (fun c9 => absurd c9 (by rw [show (4 : Int32) = nn 4 from rfl]; exact nle (a := 4) (b := i) (by omega) (by omega) (by omega))) (fun _ => ?_)
    refine lv_aload_n hx hb dX11_init_89 rfl (lv_at hl 1 rfl) ?_
    refine va_get (ci := 11) (v := .ref q2) (C := RX11) (T := TX11) (N := 14) hx hb hts inlX11 hown hK hP 0 rfl rfl 6 (by decide) (hts _ mw_2_9) (fun _ h9 => h9) hfs dX11_init_90 ?_
    refine lv_iload_n hx hb dX11_init_93 rfl (lv_at hl 0 rfl) ?_
    refine va_new (ci := 8) (fs := [.null, .int 0, .int 0, .int 0, .null, .null, .null, .int 0]) (C := RX8) (T := TX8) (N := 8) hx hb hts inlX8 tyX8 tyX8_ok hown (hts _ mw_2_5) (hts _ mw_2_6) (hts _ mw_2_7) hK hP hD hS hA rfl (fun j hj => by rcases (show j = 0 ∨ j = 1 ∨ j = 2 ∨ j = 3 ∨ j = 4 ∨ j = 5 ∨ j = 6 ∨ j = 7 by omega) with rfl | rfl | rfl | rfl | rfl | rfl | rfl | rfl <;> rfl) (show c0 + 10 * i + 1 ≤ 240 by omega) (show s0 + 71 * i + 8 ≤ 2600 by omega) dX11_init_94 (fun q H hP hD hS => ?_)
    refine lv_dup hx hb dX11_init_97 rfl ?_
    refine lv_aload_n hx hb dX11_init_98 rfl (lv_at hl 2 rfl) ?_
    refine mIb (As := [.ref b1]) (rest := [.ref q, .int (nn i), .ref q2]) S hK hP hD hS hA (i8 (l := l) (D := D)) mw_4_17 mw_2_7 mw_4_15 mw_4_16 rfl rfl rfl hd_i8_init ⟨Nat.le_of_ble_eq_true rfl, Nat.le_of_ble_eq_true rfl⟩ rfl hl.1 rfl (Nat.le_of_ble_eq_true rfl) dX11_init_99 ⟨show c0 + 10 * i + 1 + 9 ≤ 240 by omega, show s0 + 71 * i + 8 + 63 ≤ 2600 by omega⟩ (fun w1 t1 H locs hZ hK hP hD hS => ?_)
    obtain ⟨L, cy, qw, L2, cy2, rfl, rfl⟩ := hZ
    have hb9 : (List.range (i + 1)).flatMap (fun k => kSt b1 (ff A1 i (adOf q L) k) (ff C1 i cy k) (ff A2 i (adOf qw L2) k) (ff C2 i cy2 k)) = (List.range i).flatMap (fun k => kSt b1 (A1 k) (C1 k) (A2 k) (C2 k)) ++ kSt b1 (adOf q L) cy (adOf qw L2) cy2 := by
      rw [List.range_succ, List.flatMap_append, fm_congr (List.range i) (g := fun k => kSt b1 (A1 k) (C1 k) (A2 k) (C2 k)) (fun j hj => by
        have hji := List.mem_range.mp hj
        rw [ff_ne (by omega), ff_ne (by omega), ff_ne (by omega), ff_ne (by omega)]), List.flatMap_cons, List.flatMap_nil, List.append_nil, ff_at, ff_at, ff_at, ff_at]
    have ht9 : (List.range (i + 1)).flatMap (fun k => kSt_t (ff C1 i cy k) (ff C2 i cy2 k)) = (List.range i).flatMap (fun k => kSt_t (C1 k) (C2 k)) ++ kSt_t cy cy2 := by
      rw [List.range_succ, List.flatMap_append, fm_congr (List.range i) (g := fun k => kSt_t (C1 k) (C2 k)) (fun j hj => by
        have hji := List.mem_range.mp hj
        rw [ff_ne (by omega), ff_ne (by omega)]), List.flatMap_cons, List.flatMap_nil, List.append_nil, ff_at, ff_at]
    replace hK : va_K D vwCl (T0 ++ (List.range (i + 1)).flatMap (fun k => kSt_t (ff C1 i cy k) (ff C2 i cy2 k))) s := by
      rw [ht9, ← List.append_assoc]; exact hK
    replace hP : va_P D vwCl ([(a0, .inr (11, fs)), (q1, .inl (cR, 6, .inr (.inr (.inr (.inr rls))))), (q2, .inl (cI, 4, .inr (.inr (.inr (.inr im)))))] ++ (R0 ++ (List.range (i + 1)).flatMap (fun k => kSt b1 (ff A1 i (adOf q L) k) (ff C1 i cy k) (ff A2 i (adOf qw L2) k) (ff C2 i cy2 k)))) H := by
      rw [hb9, apn]; exact hP
    replace hD : va_D A ([(a0, .inr (11, fs)), (q1, .inl (cR, 6, .inr (.inr (.inr (.inr rls))))), (q2, .inl (cI, 4, .inr (.inr (.inr (.inr im)))))] ++ (R0 ++ (List.range (i + 1)).flatMap (fun k => kSt b1 (ff A1 i (adOf q L) k) (ff C1 i cy k) (ff A2 i (adOf qw L2) k) (ff C2 i cy2 k)))) := by
      rw [hb9, apn]; exact hD
    obtain ⟨t0, ht0⟩ := List.mem_iff_getElem?.mp (List.mem_append_left ((List.range (i + 1)).flatMap (fun k => kSt_t (ff C1 i cy k) (ff C2 i cy2 k))) hI)
    obtain ⟨qk, hqk⟩ : ∃ k, ([(a0, .inr (11, fs)), (q1, .inl (cR, 6, .inr (.inr (.inr (.inr rls))))), (q2, .inl (cI, 4, .inr (.inr (.inr (.inr im)))))] ++ (R0 ++ (List.range (i + 1)).flatMap (fun k => kSt b1 (ff A1 i (adOf q L) k) (ff C1 i cy k) (ff A2 i (adOf qw L2) k) (ff C2 i cy2 k))) : va_W)[k]? = some ((q, .inr (8, [.ref qw, .int (-1), .int 0, .int 0, .ref (adOf q L 1), .ref (adOf q L 2), .ref (adOf q L 3), .int 0])) : Nat × va_E) := by
      refine List.mem_iff_getElem?.mp (List.mem_append_right _ (List.mem_append_right _ ?_))
      rw [hb9]
      exact List.mem_append_right _ (List.mem_append_left _ List.mem_cons_self)
    refine va_astq (r := (RX8, TX8, 8)) hx hb hK hP hD hS 2 t0 qk 8 rfl ht0 hqk rfl (vin_lit (j := i) (nn_nat (by omega)) (nlt0 (by omega)) hi4) dX11_init_102 (fun H locs hP hD hS => ?_)
    rw [nn_nat (by omega)] at hP hD
    refine lv_iinc (v := nn (i + 1)) (lv' := [(2, .int (nn (i + 1))), (0, .ref a0), (1, .ref b1)]) hx hb dX11_init_103 hl (k := 0) rfl (nn_succ i) (by decide) rfl (fun ls hl => ?_)
    refine lv_goto (tgt := 84) hx hb dX11_init_106 rfl ?_
    have hgo := ih (i + 1) (by omega) ls H locs (va_up im i (some q)) _ _ _ _ hl (fun k hk => ?_) hK hP hD hS
    · rw [show c0 + 10 * (i + 1) = c0 + 10 * i + 1 + 9 by omega, show s0 + 71 * (i + 1) = s0 + 71 * i + 8 + 63 by omega] at hgo
      exact hgo
    · by_cases h : k = i
      · subst h
        rw [ff_at]
        exact if_pos rfl
      · rw [ff_ne h]
        exact (if_neg h).trans (him k (by omega))
