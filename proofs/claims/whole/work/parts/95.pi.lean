abbrev rm_i5 : Room := { frames := 1, cells := 1, slots := 64, locals := 12 }
theorem hd_i5_init : yX5_init.cls ≠ "java/lang/invoke/MethodHandle" ∧ yX5_init.cls ≠ "java/lang/invoke/VarHandle" ∧ (parseMethodDescriptor yX5_init.desc).map (fun d => d.parameters.length) = some 3 := by decide +kernel
set_option maxHeartbeats 4000000 in
set_option maxRecDepth 100000 in
theorem i5 {l : Launch} {D : va_G} {a0 b1 b2 b3 : Nat} : MetC l yX5_init cX5_init 4 rm_i5 D [] [(a0, .inr (5, [.null, .null, .null, .null, .int 0]))] [.ref a0, .ref b1, .ref b2, .ref b3] (fun _ => True) 1 64 (fun w t => ∃ (q : Nat) (cA : ClassId), w = [(a0, .inr (5, [.ref b1, .ref b2, .ref b3, .ref q, .int 0])), (q, .inl (cA, 64, .inr (.inl (fun _ => (0 : Int64)))))] ∧ t = [(cA, .long)]) := by
  refine metC_of (own := RX5) rfl (by decide) (Nat.le_of_ble_eq_true rfl) ?_
  intro p e s m args below meth c A Q ls S hK hA hP hD hS hl hEv hin hret
  obtain ⟨hx, hb, hml, hown, hts⟩ := id S
  replace hl : lv_has ls 4 [(0, .ref a0), (1, .ref b1), (2, .ref b2), (3, .ref b3)] := hl
  generalize hH : s.heap = H at hP ⊢
  replace hS : va_S A s.heap H [] := by rw [← hH]; exact hS
  generalize hlo : ([] : List Loc) = locs at hS ⊢
  refine lv_aload_n hx hb dX5_init_0 rfl (lv_at hl 0 rfl) ?_
  refine W.objInit hx hb hown (hts _ mw_26_7) (hts _ mw_1_10) (hts _ mw_1_11) rfl (by rw [hml]; exact hl.1) rfl dX5_init_1 (Nat.le_of_ble_eq_true rfl) (Nat.le_of_ble_eq_true rfl) ?_
  refine W.eq (g2 := F0 m 4 ls []) rfl ?_
  refine lv_aload_n hx hb dX5_init_4 rfl (lv_at hl 0 rfl) ?_
  refine lv_bipush (v := (64 : Int32)) hx hb dX5_init_5 (by decide) ?_
  refine va_newa (atype := .long) (N' := 64) (a0 := (64, .inr (.inl (fun _ => (0 : Int64))))) hx hb (hts _ mw_5_18) rfl hK hP hD hS hA (vpc_j 64) (by decide) rfl (Nat.le_of_ble_eq_true rfl) (Nat.le_of_ble_eq_true rfl) (Nat.le_of_ble_eq_true rfl) dX5_init_7 (fun q1 cA2 H hK hP hD hS => ?_)
  replace hP : va_P D vwCl ([(a0, .inr (5, [.null, .null, .null, .null, .int 0]))] ++ [(q1, .inl (cA2, 64, .inr (.inl (fun _ => (0 : Int64)))))]) H := hP
  replace hD : va_D A ([(a0, .inr (5, [.null, .null, .null, .null, .int 0]))] ++ [(q1, .inl (cA2, 64, .inr (.inl (fun _ => (0 : Int64)))))]) := hD
  replace hK : va_K D vwCl [(cA2, .long)] s := hK
  refine W.widen (k := 1) (n := 64) (Nat.le_refl _) (Nat.le_refl _) ?_
  refine va_putF (ci := 5) (v := .ref q1) (ty := (.array .long)) (C := RX5) (T := TX5) (N := 5) hx hb hts inlX5 tyX5 tyX5_ok nmX5 hown hK hP hD hS 0 rfl rfl 3 (by decide) (hts _ mw_26_8) (fun _ h9 => h9) rfl hin rfl (by decide +kernel) rfl rfl (Nat.le_of_ble_eq_true rfl) dX5_init_9 (fun H locs hP hD hS => ?_)
  replace hP : va_P D vwCl ([(a0, .inr (5, [.null, .null, .null, .ref q1, .int 0]))] ++ [(q1, .inl (cA2, 64, .inr (.inl (fun _ => (0 : Int64)))))]) H := hP
  replace hD : va_D A ([(a0, .inr (5, [.null, .null, .null, .ref q1, .int 0]))] ++ [(q1, .inl (cA2, 64, .inr (.inl (fun _ => (0 : Int64)))))]) := hD
  refine lv_aload_n hx hb dX5_init_12 rfl (lv_at hl 0 rfl) ?_
  refine lv_aload_n hx hb dX5_init_13 rfl (lv_at hl 1 rfl) ?_
  refine va_putF (ci := 5) (v := .ref b1) (ty := (.array .int)) (C := RX5) (T := TX5) (N := 5) hx hb hts inlX5 tyX5 tyX5_ok nmX5 hown hK hP hD hS 0 rfl rfl 0 (by decide) (hts _ mw_26_9) (fun _ h9 => h9) rfl hin rfl (by decide +kernel) rfl rfl (Nat.le_of_ble_eq_true rfl) dX5_init_14 (fun H locs hP hD hS => ?_)
  replace hP : va_P D vwCl ([(a0, .inr (5, [.ref b1, .null, .null, .ref q1, .int 0]))] ++ [(q1, .inl (cA2, 64, .inr (.inl (fun _ => (0 : Int64)))))]) H := hP
  replace hD : va_D A ([(a0, .inr (5, [.ref b1, .null, .null, .ref q1, .int 0]))] ++ [(q1, .inl (cA2, 64, .inr (.inl (fun _ => (0 : Int64)))))]) := hD
  refine lv_aload_n hx hb dX5_init_17 rfl (lv_at hl 0 rfl) ?_
  refine lv_aload_n hx hb dX5_init_18 rfl (lv_at hl 2 rfl) ?_
  refine va_putF (ci := 5) (v := .ref b2) (ty := (.array .int)) (C := RX5) (T := TX5) (N := 5) hx hb hts inlX5 tyX5 tyX5_ok nmX5 hown hK hP hD hS 0 rfl rfl 1 (by decide) (hts _ mw_26_10) (fun _ h9 => h9) rfl hin rfl (by decide +kernel) rfl rfl (Nat.le_of_ble_eq_true rfl) dX5_init_19 (fun H locs hP hD hS => ?_)
  replace hP : va_P D vwCl ([(a0, .inr (5, [.ref b1, .ref b2, .null, .ref q1, .int 0]))] ++ [(q1, .inl (cA2, 64, .inr (.inl (fun _ => (0 : Int64)))))]) H := hP
  replace hD : va_D A ([(a0, .inr (5, [.ref b1, .ref b2, .null, .ref q1, .int 0]))] ++ [(q1, .inl (cA2, 64, .inr (.inl (fun _ => (0 : Int64)))))]) := hD
  refine lv_aload_n hx hb dX5_init_22 rfl (lv_at hl 0 rfl) ?_
  refine lv_aload_n hx hb dX5_init_23 rfl (lv_at hl 3 rfl) ?_
  refine va_putF (ci := 5) (v := .ref b3) (ty := (.array .int)) (C := RX5) (T := TX5) (N := 5) hx hb hts inlX5 tyX5 tyX5_ok nmX5 hown hK hP hD hS 0 rfl rfl 2 (by decide) (hts _ mw_26_11) (fun _ h9 => h9) rfl hin rfl (by decide +kernel) rfl rfl (Nat.le_of_ble_eq_true rfl) dX5_init_24 (fun H locs hP hD hS => ?_)
  replace hP : va_P D vwCl ([(a0, .inr (5, [.ref b1, .ref b2, .ref b3, .ref q1, .int 0]))] ++ [(q1, .inl (cA2, 64, .inr (.inl (fun _ => (0 : Int64)))))]) H := hP
  replace hD : va_D A ([(a0, .inr (5, [.ref b1, .ref b2, .ref b3, .ref q1, .int 0]))] ++ [(q1, .inl (cA2, 64, .inr (.inl (fun _ => (0 : Int64)))))]) := hD
  exact hret _ _ _ _ _ _ ⟨q1, cA2, rfl, rfl⟩ hK hP hD hS dX5_init_27
/-! contracts of methods that make cells and answer one of them -/
def MetN (l : Launch) (y : MethodName) (cc : ByteArray) (maxL : Nat) (ret : Option FieldType) (rm : Room) (D : va_G) (tys : List (ClassId × FieldType)) (ws : va_W) (av : List Value) (Ev : State → Prop) (mc ms : Nat) (Z : va_W → List (ClassId × FieldType) → Nat → Prop) : Prop :=
  ∀ sz : Nat, Met l y (Cond.code y cc maxL ret :: wsL_law) rm (PreC D tys ws sz av Ev) (va_Qr (fun (_ : va_W × List (ClassId × FieldType)) => True) (fun u a t => Z u.1 u.2 a ∧ va_P D vwCl u.1 t.heap ∧ va_K D vwCl u.2 t ∧ va_D (va_A ws sz) u.1) (va_A ws sz)) mc ms (va_A ws sz)
abbrev RetN (cc : ByteArray) (rm : Room) (l : Launch) (D : va_G) (mc ms : Nat) (Z : va_W → List (ClassId × FieldType) → Nat → Prop) : Program → Env → State → MethodId → Array Value → List Frame → Method → Code → (Nat → Prop) → (State → Prop) → Prop := fun p e s m args below meth c A Q =>
  ∀ (ws' : va_W) (tys' : List (ClassId × FieldType)) (a pc : Nat) (ls : Array Slot) (H : Heap) (locs : List Loc), Z ws' tys' a → va_K D vwCl tys' s → va_P D vwCl ws' H → va_D A ws' → va_S A s.heap H locs → decode cc pc = .ok (.areturn, 1) → W p l e rm s m args below meth c H locs mc ms Q (F0 m pc ls [.ref a])
theorem metN_of {l : Launch} {y : MethodName} {cc : ByteArray} {maxL : Nat} {ty : FieldType} {rm : Room} {D : va_G} {tys : List (ClassId × FieldType)} {ws : va_W} {av : List Value} {own : String} {Ev : State → Prop} {mc ms : Nat} {Z : va_W → List (ClassId × FieldType) → Nat → Prop} (hty : (∃ n, ty = .object n) ∨ ∃ t, ty = .array t) (ho : y.cls = own) (hy : plainName y.cls = true) (hlen : (lg_sl av).length ≤ maxL)
    (body : ∀ (p : Program) (e : Env) (s : State) (m : MethodId) (args : Array Value) (below : List Frame) (meth : Method) (c : Code) (A : Nat → Prop) (Q : State → Prop) (ls : Array Slot),
      CallFix p m c cc maxL s args wsL_law own → va_K D vwCl tys s → (∀ q, s.heap.size ≤ q → A q) → va_P D vwCl ws s.heap → va_D A ws → va_S A s.heap s.heap [] → lv_has ls maxL (lv_args 0 av) → Ev s → RetN cc rm l D mc ms Z p e s m args below meth c A Q →
      W p l e rm s m args below meth c s.heap [] 0 0 Q (F0 m 0 ls [])) : MetN l y cc maxL (some ty) rm D tys ws av Ev mc ms Z := by
  intro sz
  refine Met.ofW (cc := cc) (maxL := maxL) (ret := some ty) hy rfl ?_
  intro p e s m args below meth c s₁ B hml hv
  obtain ⟨rfl, hsz, hP, hK, hD0, hEv⟩ := hv
  have hts0 := atoms_spec (ws := Cond.code y cc maxL (some ty) :: wsL_law) B.pre
  have hown : s.vm.findClass own = some m.cls := by rw [← ho]; exact findClass_of_methodNamed B.named
  have hlocks := B.notSynchronized
  subst hsz
  have hD := hD0.self (sz := s.heap.size)
  have hA : ∀ q : Nat, s.heap.size ≤ q → va_A ws s.heap.size q := fun q h => Or.inr h
  have hl := lv_entry av (n := maxL) hlen
  rw [lg_entry_eq]
  exact body p e s m av.toArray below meth c _ _ _ ⟨B.exec, B.bytes, hml, hown, fun w h => hts0 w (List.mem_cons_of_mem _ h)⟩ hK hA hP hD va_S.rf hl hEv
    (fun ws' tys' a pc ls H locs hZ hK9 hP9 hD9 hS hd => W.aret B.exec B.bytes B.returns hty (Or.inr ⟨a, rfl⟩) (fun t ht hW => ⟨⟨(ws', tys'), a, rfl, trivial, hZ, by rw [ht]; exact hP9, va_K.moved hW.alike hK9, hD9⟩, hS.F ht⟩) hS.2.2 hd)
abbrev rm_copyOf : Room := { frames := 1, cells := 1, slots := 400, locals := 60 }
theorem hd_copyOf : yJ7_copyOf_59c91.cls ≠ "java/lang/invoke/MethodHandle" ∧ yJ7_copyOf_59c91.cls ≠ "java/lang/invoke/VarHandle" ∧ (parseMethodDescriptor yJ7_copyOf_59c91.desc).map (fun d => d.parameters.length) = some 2 := by decide +kernel
set_option maxHeartbeats 4000000 in
set_option maxRecDepth 100000 in
theorem cJ7_copyOf {l : Launch} {D : va_G} {b1 n k : Nat} {c1 : ClassId} {f : Nat → Int32} (hk : k ≤ n) (hn : n ≤ 400) : MetN l yJ7_copyOf_59c91 cJ7_copyOf_59c91 3 (some (.array .int)) rm_copyOf D [(c1, .int)] [(b1, .inl (c1, n, .inl f))] [.ref b1, .int (nn k)] EvC 1 400 (fun w t a => ∃ (cA : ClassId) (g : Nat → Int32), w = [(b1, .inl (c1, n, .inl f)), (a, .inl (cA, k, .inl g))] ∧ t = [(cA, .int)] ∧ ∀ i, i < k → g i = f i) := by
  refine metN_of (own := RJ7) (Or.inr ⟨_, rfl⟩) rfl (by decide) (Nat.le_of_ble_eq_true rfl) ?_
  intro p e s m args below meth c A Q ls S hK hA hP hD hS hl hEv hret
  obtain ⟨hx, hb, hml, hown, hts⟩ := id S
  replace hl : lv_has ls 3 [(0, .ref b1), (1, .int (nn k))] := hl
  generalize hH : s.heap = H at hP ⊢
  replace hS : va_S A s.heap H [] := by rw [← hH]; exact hS
  generalize hlo : ([] : List Loc) = locs at hS ⊢
  have hnm : s.vm.findClass "[I" = some c1 := (hK.2 0 _ rfl).2
  refine lv_iload_n hx hb dJ7_copyOf_59c91_0 rfl (lv_at hl 1 rfl) ?_
  refine lv_aload_n hx hb dJ7_copyOf_59c91_1 rfl (lv_at hl 0 rfl) ?_
  refine va_alen (v := nn n) hx hb hK hP 0 0 rfl rfl rfl dJ7_copyOf_59c91_2 ?_
  refine lv_icmp_ne (tgt := 14) hx hb dJ7_copyOf_59c91_3 rfl (fun c9 => ?_) (fun c9 => ?_)
  · have hkn : k < n := by
      rcases Nat.lt_or_ge k n with h | h
      · exact h
      · exact absurd (show nn k = nn n by rw [show k = n by omega]) c9
    refine lv_iload_n hx hb dJ7_copyOf_59c91_14 rfl (lv_at hl 1 rfl) ?_
    refine va_newa (atype := .int) (N' := k) (a0 := (k, .inl (fun _ => (0 : Int32)))) hx hb (hts _ mw_3_11) rfl hK hP hD hS hA (vpc_i k) (nlt0 (by omega)) (nn_nat (by omega)) (show k * 4 ≤ 536870912 by omega) (Nat.le_of_ble_eq_true rfl) (show 0 + k ≤ 400 by omega) dJ7_copyOf_59c91_15 (fun q cA H hK hP hD hS => ?_)
    refine lv_astore_n (lv' := [(2, .ref q), (0, .ref b1), (1, .int (nn k))]) hx hb dJ7_copyOf_59c91_17 rfl hl (by decide) rfl (fun ls hl => ?_)
    refine lv_aload_n hx hb dJ7_copyOf_59c91_18 rfl (lv_at hl 1 rfl) ?_
    refine lv_iconst (v := (0 : Int32)) hx hb dJ7_copyOf_59c91_19 (by decide) ?_
    refine lv_aload_n hx hb dJ7_copyOf_59c91_20 rfl (lv_at hl 0 rfl) ?_
    refine lv_iconst (v := (0 : Int32)) hx hb dJ7_copyOf_59c91_21 (by decide) ?_
    refine lv_aload_n hx hb dJ7_copyOf_59c91_22 rfl (lv_at hl 1 rfl) ?_
    refine va_alen (v := nn n) hx hb hK hP 0 0 rfl rfl rfl dJ7_copyOf_59c91_23 ?_
    refine lv_iload_n hx hb dJ7_copyOf_59c91_24 rfl (lv_at hl 2 rfl) ?_
    refine va_mmin (rest := [.int 0, .ref q, .int 0, .ref b1]) hx hb (hml.trans hl.1.symm) hown (hts _ mw_26_0) (hts _ mw_26_1) (hts _ mw_13_17) (hts _ mw_26_2) (Nat.le_of_ble_eq_true rfl) (Nat.le_of_ble_eq_true rfl) (show 0 + 1 ≤ 1 by omega) (show 0 + k ≤ 400 by omega) dJ7_copyOf_59c91_25 ?_
    rw [if_pos (show nn k < nn n by rw [nn_lt (by omega) (by omega)]; exact hkn)]
    refine cp_i hx hb (hml.trans hl.1.symm) hown (hts _ mw_26_3) (hts _ mw_15_10) (hts _ mw_15_11) (hts _ mw_15_12) hK hP hD hS 0 1 0 1 rfl rfl rfl rfl k (nn_nat (by omega)) (nlt0 (by omega)) hk (Nat.le_refl _) (Nat.le_of_ble_eq_true rfl) (Nat.le_of_ble_eq_true rfl) dJ7_copyOf_59c91_28 (fun g H locs eg hP hD hS => ?_)
    refine lv_aload_n hx hb dJ7_copyOf_59c91_31 rfl (lv_at hl 0 rfl) ?_
    refine W.widen (k := 1) (n := 400) (Nat.le_refl _) (show 0 + k ≤ 400 by omega) ?_
    refine hret _ _ _ _ _ _ _ ⟨cA, g, rfl, rfl, fun i hi => ?_⟩ (hK.sub (tys' := [(cA, .int)]) [1] rfl) hP hD hS dJ7_copyOf_59c91_32
    rw [eg]
    show (if 0 ≤ i ∧ i < 0 + k then f (0 + (i - 0)) else (0 : Int32)) = f i
    rw [if_pos ⟨Nat.zero_le _, by omega⟩, Nat.sub_zero, Nat.zero_add]
  · have hkn : k = n := by
      have h := congrArg Int32.toNatClampNeg c9
      rwa [nn_nat (by omega), nn_nat (by omega)] at h
    subst hkn
    refine lv_aload_n hx hb dJ7_copyOf_59c91_6 rfl (lv_at hl 0 rfl) ?_
    refine va_clone hx hb (hml.trans hl.1.symm) hown (hts _ mw_25_18) (hts _ mw_25_19) (hts _ mw_25_20) (hts _ mw_25_21) (hts _ mw_25_22) hEv hK hP hD hS hA 0 0 rfl rfl hnm (fun i v hv => ?_) (Nat.le_of_ble_eq_true rfl) (Nat.le_of_ble_eq_true rfl) (Nat.le_of_ble_eq_true rfl) (show 0 + k ≤ 400 by omega) dJ7_copyOf_59c91_7 (fun q H hK hP hD hS => ?_)
    · obtain ⟨hi, rfl⟩ := Array.getElem?_eq_some_iff.mp hv
      simp [vp_cell, arrV]
      rfl
    refine va_castA hx hb hown (hts _ mw_25_23) hP 1 rfl hnm dJ7_copyOf_59c91_10 ?_
    refine W.widen (k := 1) (n := 400) (Nat.le_refl _) (show 0 + k ≤ 400 by omega) ?_
    exact hret _ _ _ _ _ _ _ ⟨c1, f, rfl, rfl, fun _ _ => rfl⟩ (hK.sub (tys' := [(c1, .int)]) [1] rfl) hP hD hS dJ7_copyOf_59c91_13
