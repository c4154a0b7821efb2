/-! the start: the JDK's texts and statics, the tables' words about arrays -/
def tmS : Nat → Term := fun i => match i with
  | 0 => .string "LadderLand$LadderReader" 39
  | 1 => .string "LadderLand$RuleReader" 51
  | 2 => .string "LadderLand$RuleReader" 68
  | 3 => .string "LadderLand$RuleReader" 83
  | 4 => .string "LadderLand$RuleReader" 85
  | 5 => .string "LadderLand$RuleReader" 91
  | _ => .string "LadderLand$RuleReader" 119
def poS : List Nat := [52, 82, 175, 197, 210, 185, 93]
theorem s_len : ∀ i : Nat, i < 7 → lenS.getD i 0 < 2 ^ 31 := by decide
theorem s_ex : ∀ i : Nat, i < 7 → (Cond.exactly (tmS i) "java/lang/String") ∈ flatC (Cond.and given_1 narrow_1) := by decide +kernel
theorem s_co : ∀ i : Nat, i < 7 → (Cond.eq (.field (tmS i) "java/lang/String" "coder" "B") (.int 0)) ∈ flatC (Cond.and given_1 narrow_1) := by decide +kernel
theorem s_ar : ∀ i : Nat, i < 7 → (Cond.arrayOf (.field (tmS i) "java/lang/String" "value" "[B") .byte) ∈ flatC (Cond.and given_1 narrow_1) := by decide +kernel
theorem s_le : ∀ i : Nat, i < 7 → (Cond.eq (.length (.field (tmS i) "java/lang/String" "value" "[B")) (.int (Int32.ofNat (lenS.getD i 0)))) ∈ flatC (Cond.and given_1 narrow_1) := by decide +kernel
theorem s_el : ∀ i : Nat, i < 7 → ∀ j : Nat, j < lenS.getD i 0 → (flatC (Cond.and given_1 narrow_1))[poS.getD i 0 + j]? = some (Cond.eq (.elem (.field (tmS i) "java/lang/String" "value" "[B") (.int (Int32.ofNat j))) (.int ((bytS.getD i []).getD j 0))) := by decide +kernel
theorem s_ne : ∀ i : Nat, i < 7 → ∀ j : Nat, j < 7 → i ≠ j → (Cond.not (Cond.eq (tmS i) (tmS j))) ∈ flatC (Cond.and given_1 narrow_1) ∨ (Cond.not (Cond.eq (tmS j) (tmS i))) ∈ flatC (Cond.and given_1 narrow_1) := by decide +kernel
theorem s_st : (Cond.eq (Term.static "java/lang/String" "COMPACT_STRINGS" "Z") (Term.int 1)) ∈ flatC (Cond.and given_1 narrow_1) ∧ (Cond.isRef (Term.static "jdk/internal/util/Preconditions" "SIOOBE_FORMATTER" "Ljava/util/function/BiFunction;")) ∈ flatC (Cond.and given_1 narrow_1) := by decide +kernel
theorem s_w1 : (Cond.laysStatic "java/lang/String" "COMPACT_STRINGS" "Z") ∈ lw_tbl := by decide +kernel
theorem s_w2 : (Cond.initialized "java/lang/String") ∈ lw_tbl := by decide +kernel
theorem s_w3 : (Cond.laysStatic "jdk/internal/util/Preconditions" "SIOOBE_FORMATTER" "Ljava/util/function/BiFunction;") ∈ lw_tbl := by decide +kernel
theorem s_w4 : (Cond.initialized "jdk/internal/util/Preconditions") ∈ lw_tbl := by decide +kernel
theorem s_r0 : (Cond.stringRef RX2 39 "ladder rung broken person ") ∈ lw_tbl := by decide +kernel
theorem s_r1 : (Cond.stringRef RX6 51 "climb ") ∈ lw_tbl := by decide +kernel
theorem s_r2 : (Cond.stringRef RX6 68 "if ") ∈ lw_tbl := by decide +kernel
theorem s_r3 : (Cond.stringRef RX6 83 "and ") ∈ lw_tbl := by decide +kernel
theorem s_r4 : (Cond.stringRef RX6 85 "or ") ∈ lw_tbl := by decide +kernel
theorem s_r5 : (Cond.stringRef RX6 91 "not ") ∈ lw_tbl := by decide +kernel
theorem s_r6 : (Cond.stringRef RX6 119 "person rung want weight grip told hour here above below worn strength slips ") ∈ lw_tbl := by decide +kernel
theorem s_cl : (Cond.castable "[I" "java/lang/Cloneable") ∈ lw_tbl := by decide +kernel
theorem s_a5 : (Cond.arrayOver (.object RX5)) ∈ lw_tbl := by decide +kernel
theorem s_a8 : (Cond.arrayOver (.object RX8)) ∈ lw_tbl := by decide +kernel
theorem s_a10 : (Cond.arrayOver (.object RX10)) ∈ lw_tbl := by decide +kernel
theorem s_n9 : (Cond.methodLinkNest RX11 12 yX9_init "LadderLand") ∈ lw_tbl := by decide +kernel
theorem s_n0 : (Cond.methodLinkNest RX11 63 yX0_init "LadderLand") ∈ lw_tbl := by decide +kernel
theorem se_start {s : State} {b : Nat} {A : Nat → Prop} (hgv : (Jvm.Cond.and given_1 narrow_1).before #[Value.ref b] s = true) (hts : ∀ w ∈ lw_tbl, w.before #[Value.ref b] s = true) (hA : ∀ a : Nat, a < s.heap.size → ¬ A a) : ∃ adK adV : Nat → Nat, SE adK adV A s s.heap := by
  have hs := flat_of_before _ hgv
  obtain ⟨adK, adV, h1, h2⟩ := vk_Sof (args := #[Value.ref b]) (s := s) (N := 7) (tm := tmS) (len := lenS) (byt := bytS) (A := A) s_len (fun i hi => hs _ (s_ex i hi)) (fun i hi => hs _ (s_co i hi)) (fun i hi => hs _ (s_ar i hi)) (fun i hi => hs _ (s_le i hi)) (fun i hi j hj => hs _ (List.mem_of_getElem? (s_el i hi j hj))) (fun i j hi hj hij => (s_ne i hi j hj hij).imp (fun h => hs _ h) (fun h => hs _ h)) hA
  exact ⟨adK, adV, h1, va_Zof (hts _ s_w1) (hts _ s_w2) (va_eqt (hs _ s_st.1)) hA, va_Zqof (hts _ s_w3) (hts _ s_w4) (hs _ s_st.2) hA, vk_R.of (hts _ s_r0) (h2 0 (by omega)), vk_R.of (hts _ s_r1) (h2 1 (by omega)), vk_R.of (hts _ s_r2) (h2 2 (by omega)), vk_R.of (hts _ s_r3) (h2 3 (by omega)), vk_R.of (hts _ s_r4) (h2 4 (by omega)), vk_R.of (hts _ s_r5) (h2 5 (by omega)), vk_R.of (hts _ s_r6) (h2 6 (by omega))⟩
theorem Ev11_blind (U : State) (g : JFrame) (mk : MethodId) (a : Array Value) (h : Ev11 U) : Ev11 (U.calling g mk a) :=
  ⟨va_AO.moved (u := U) (U := U.calling g mk a) (Vm.Alike.refl U.vm) h.1, va_AO.moved (u := U) (U := U.calling g mk a) (Vm.Alike.refl U.vm) h.2.1, va_AO.moved (u := U) (U := U.calling g mk a) (Vm.Alike.refl U.vm) h.2.2.1, va_Nw.same (u := U) (U := U.calling g mk a) rfl rfl h.2.2.2.1, va_Nw.same (u := U) (U := U.calling g mk a) rfl rfl h.2.2.2.2⟩
theorem Ev11_warm {s : State} (h : Ev11 s) (U : State) (hW : s.WarmedH U.vm) : Ev11 U :=
  ⟨h.1.moved hW.alike, h.2.1.moved hW.alike, h.2.2.1.moved hW.alike, va_Nw.warmM hW h.2.2.2.1, va_Nw.warmM hW h.2.2.2.2⟩
theorem hd_i11_init : yX11_init.cls ≠ "java/lang/invoke/MethodHandle" ∧ yX11_init.cls ≠ "java/lang/invoke/VarHandle" ∧ (parseMethodDescriptor yX11_init.desc).map (fun d => d.parameters.length) = some 0 := by decide +kernel
