/-! String.length and String.charAt of the class's texts, as the JDK's code -/
theorem strL_small {i : Nat} (hi : i < 7) : strL i < 100 := by
  have : ∀ i, i < 7 → strL i < 100 := by decide
  exact this i hi
theorem strL_lt {i : Nat} (hi : i < 7) {a : Int32} (h1 : ¬ a < 0) (h2 : a.toNatClampNeg < strL i) : a < Int32.ofNat (strL i) := by
  obtain ⟨j, hj, rfl⟩ := nI_of h1
  rw [nI_clamp hj] at h2
  have := strL_small hi
  exact nI_lt h2 (by omega)
theorem strC_nar (i j : Nat) : narrow .char (.int (strC i j)) = .int (strC i j) := by
  have hy : ∀ y : UInt32, (y % 65536).toUInt16.toUInt32 = y % 65536 := by
    intro y
    apply UInt32.toNat_inj.mp
    simp [UInt32.toNat_mod]
  have h : vp_nar .char (strC i j) = strC i j := by
    rw [vp_nar_char]
    unfold strC
    show UInt32.toInt32 (UInt16.toUInt32 (UInt32.toUInt16 (Int32.toUInt32 (strB i j &&& 255) % 65536))) = _
    rw [hy]
  have h2 : narrow .char (.int (strC i j)) = .int (vp_nar .char (strC i j)) := rfl
  rw [h2, h]
theorem hd_s_length : yJ0_length_8abf5.cls = RJ0 ∧ yJ0_length_8abf5.cls ≠ "java/lang/invoke/MethodHandle" ∧ yJ0_length_8abf5.cls ≠ "java/lang/invoke/VarHandle" ∧ (parseMethodDescriptor yJ0_length_8abf5.desc).map (fun d => d.parameters.length) = some 0 := by decide +kernel
theorem hd_s_charAt : yJ0_charAt_5068e.cls = RJ0 ∧ yJ0_charAt_5068e.cls ≠ "java/lang/invoke/MethodHandle" ∧ yJ0_charAt_5068e.cls ≠ "java/lang/invoke/VarHandle" ∧ (parseMethodDescriptor yJ0_charAt_5068e.desc).map (fun d => d.parameters.length) = some 1 := by decide +kernel
theorem hd_s_coder : yJ0_coder_7d493.cls = RJ0 ∧ yJ0_coder_7d493.cls ≠ "java/lang/invoke/MethodHandle" ∧ yJ0_coder_7d493.cls ≠ "java/lang/invoke/VarHandle" ∧ (parseMethodDescriptor yJ0_coder_7d493.desc).map (fun d => d.parameters.length) = some 0 := by decide +kernel
theorem hd_s_isLatin1 : yJ0_isLatin1_aae02.cls = RJ0 ∧ yJ0_isLatin1_aae02.cls ≠ "java/lang/invoke/MethodHandle" ∧ yJ0_isLatin1_aae02.cls ≠ "java/lang/invoke/VarHandle" ∧ (parseMethodDescriptor yJ0_isLatin1_aae02.desc).map (fun d => d.parameters.length) = some 0 := by decide +kernel
theorem hd_s_checkIndex : yJ0_checkIndex_df160.cls ≠ "java/lang/invoke/MethodHandle" ∧ yJ0_checkIndex_df160.cls ≠ "java/lang/invoke/VarHandle" ∧ (parseMethodDescriptor yJ0_checkIndex_df160.desc).map (fun d => d.parameters.length) = some 2 := by decide +kernel
theorem hd_s_lcharAt : yJ1_charAt_3b067.cls ≠ "java/lang/invoke/MethodHandle" ∧ yJ1_charAt_3b067.cls ≠ "java/lang/invoke/VarHandle" ∧ (parseMethodDescriptor yJ1_charAt_3b067.desc).map (fun d => d.parameters.length) = some 2 := by decide +kernel
theorem hd_s_pcheck : yJ3_checkIndex_8e157.cls ≠ "java/lang/invoke/MethodHandle" ∧ yJ3_checkIndex_8e157.cls ≠ "java/lang/invoke/VarHandle" ∧ (parseMethodDescriptor yJ3_checkIndex_8e157.desc).map (fun d => d.parameters.length) = some 3 := by decide +kernel
abbrev rm_s_length : Room := { frames := 1, cells := 0, slots := 0, locals := 20 }
abbrev rm_s_charAt : Room := { frames := 3, cells := 0, slots := 0, locals := 64 }
abbrev rm_s_coder : Room := { frames := 0, cells := 0, slots := 0, locals := 0 }
abbrev rm_s_isLatin1 : Room := { frames := 0, cells := 0, slots := 0, locals := 0 }
abbrev rm_s_checkIndex : Room := { frames := 1, cells := 0, slots := 0, locals := 22 }
abbrev rm_s_lcharAt : Room := { frames := 2, cells := 0, slots := 0, locals := 43 }
abbrev rm_s_pcheck : Room := { frames := 0, cells := 0, slots := 0, locals := 0 }
set_option maxHeartbeats 4000000 in
set_option maxRecDepth 100000 in
theorem s_coder {l : Launch} {D : va_G} {adK adV : Nat → Nat} {i : Nat} (hi : i < 7) : MetIE l yJ0_coder_7d493 cJ0_coder_7d493 1 (some .byte) rm_s_coder D [] [] [] [.ref (adK i)] adK adV 0 := by
  refine metIE_of (own := RJ0) rfl (by decide) (Nat.le_of_ble_eq_true rfl) ?_
  intro p e s m args below meth c A Q ls S hK hA hP hD hS hl hE hret
  obtain ⟨hx, hb, hml, hown, hts⟩ := id S
  generalize hH : s.heap = H at hP ⊢
  replace hS : va_S A s.heap H [] := by rw [← hH]; exact hS
  generalize hlo : ([] : List Loc) = locs at hS ⊢
  replace hl : lv_has ls 1 [(0, .ref (adK i))] := hl
  refine va_gets hx hb hE.2.1 hS hown (hts _ mw_11_2) (fun _ h9 => h9) dJ0_coder_7d493_0 ?_
  refine lv_if_eq (tgt := 13) hx hb dJ0_coder_7d493_3 rfl (fun c1 => absurd c1 (by decide)) (fun c1 => ?_)
  refine lv_aload_n hx hb dJ0_coder_7d493_6 rfl (lv_at hl 0 rfl) ?_
  refine vk_getf hx hb (hE.1.1 i hi).2.1 hS hown (hts _ mw_11_3) (fun _ h9 => h9) dJ0_coder_7d493_7 ?_
  refine lv_goto (tgt := 14) hx hb dJ0_coder_7d493_10 rfl ?_
  exact hret _ _ _ _ _ hP hD hS rfl rfl dJ0_coder_7d493_14
set_option maxHeartbeats 4000000 in
set_option maxRecDepth 100000 in
theorem s_isLatin1 {l : Launch} {D : va_G} {adK adV : Nat → Nat} {i : Nat} (hi : i < 7) : MetIE l yJ0_isLatin1_aae02 cJ0_isLatin1_aae02 1 (some .boolean) rm_s_isLatin1 D [] [] [] [.ref (adK i)] adK adV 1 := by
  refine metIE_of (own := RJ0) rfl (by decide) (Nat.le_of_ble_eq_true rfl) ?_
  intro p e s m args below meth c A Q ls S hK hA hP hD hS hl hE hret
  obtain ⟨hx, hb, hml, hown, hts⟩ := id S
  generalize hH : s.heap = H at hP ⊢
  replace hS : va_S A s.heap H [] := by rw [← hH]; exact hS
  generalize hlo : ([] : List Loc) = locs at hS ⊢
  replace hl : lv_has ls 1 [(0, .ref (adK i))] := hl
  refine va_gets hx hb hE.2.1 hS hown (hts _ mw_11_2) (fun _ h9 => h9) dJ0_isLatin1_aae02_0 ?_
  refine lv_if_eq (tgt := 17) hx hb dJ0_isLatin1_aae02_3 rfl (fun c1 => absurd c1 (by decide)) (fun c1 => ?_)
  refine lv_aload_n hx hb dJ0_isLatin1_aae02_6 rfl (lv_at hl 0 rfl) ?_
  refine vk_getf hx hb (hE.1.1 i hi).2.1 hS hown (hts _ mw_11_3) (fun _ h9 => h9) dJ0_isLatin1_aae02_7 ?_
  refine lv_if_ne (tgt := 17) hx hb dJ0_isLatin1_aae02_10 rfl (fun c1 => absurd rfl c1) (fun c1 => ?_)
  refine lv_iconst (v := (1 : Int32)) hx hb dJ0_isLatin1_aae02_13 (by decide) ?_
  refine lv_goto (tgt := 18) hx hb dJ0_isLatin1_aae02_14 rfl ?_
  exact hret _ _ _ _ _ hP hD hS rfl nz1 dJ0_isLatin1_aae02_18
theorem shr0 (x : Int32) : x >>> ((0 : Int32) &&& 31) = x := by
  show x >>> (0 : Int32) = x
  simp
set_option maxHeartbeats 4000000 in
set_option maxRecDepth 100000 in
theorem s_length {l : Launch} {D : va_G} {adK adV : Nat → Nat} {i : Nat} (hi : i < 7) : MetIE l yJ0_length_8abf5 cJ0_length_8abf5 1 (some .int) rm_s_length D [] [] [] [.ref (adK i)] adK adV (Int32.ofNat (strL i)) := by
  refine metIE_of (own := RJ0) rfl (by decide) (Nat.le_of_ble_eq_true rfl) ?_
  intro p e s m args below meth c A Q ls S hK hA hP hD hS hl hE hret
  obtain ⟨hx, hb, hml, hown, hts⟩ := id S
  generalize hH : s.heap = H at hP ⊢
  replace hS : va_S A s.heap H [] := by rw [← hH]; exact hS
  generalize hlo : ([] : List Loc) = locs at hS ⊢
  replace hl : lv_has ls 1 [(0, .ref (adK i))] := hl
  refine lv_aload_n hx hb dJ0_length_8abf5_0 rfl (lv_at hl 0 rfl) ?_
  refine vk_getf hx hb (hE.1.1 i hi).2.2.1 hS hown (hts _ mw_10_21) (fun _ h9 => h9) dJ0_length_8abf5_1 ?_
  refine va_tlen (v := Int32.ofNat (strL i)) hx hb (hE.1.1 i hi).2.2.2 hS rfl dJ0_length_8abf5_4 ?_
  refine lv_aload_n hx hb dJ0_length_8abf5_5 rfl (lv_at hl 0 rfl) ?_
  refine mstr_i (As := []) (rest := [.int (Int32.ofNat (strL i))]) S hK hP hD hS hA hE hi (s_coder hi) (gdV mw_10_22 mw_10_23 mw_11_0 mw_10_19 mw_11_1) rfl rfl hd_s_coder ⟨Nat.le_of_ble_eq_true rfl, Nat.le_of_ble_eq_true rfl⟩ rfl rfl hl.1 rfl (Nat.le_of_ble_eq_true rfl) dJ0_length_8abf5_6 (fun H locs hP hD hS => ?_)
  refine lv_ishr hx hb dJ0_length_8abf5_9 ?_
  rw [shr0]
  exact hret _ _ _ _ _ hP hD hS rfl rfl dJ0_length_8abf5_10
set_option maxHeartbeats 4000000 in
set_option maxRecDepth 100000 in
theorem s_pcheck {l : Launch} {D : va_G} {a1 a2 : Int32} {v : Value} (h1 : ¬ a1 < 0) (h2 : a1 < a2) (hv : v.category = 1) : MetI l yJ3_checkIndex_8e157 cJ3_checkIndex_8e157 3 (some .int) rm_s_pcheck D [] [] [] [.int a1, .int a2, v] a1 := by
  refine metI_of (own := RJ3) rfl (by decide) (by cases v <;> simp_all [lg_sl, Value.category]) ?_
  intro p e s m args below meth c A Q ls S hK hA hP hD hS hl hret
  obtain ⟨hx, hb, hml, hown, hts⟩ := id S
  generalize hH : s.heap = H at hP ⊢
  replace hS : va_S A s.heap H [] := by rw [← hH]; exact hS
  generalize hlo : ([] : List Loc) = locs at hS ⊢
  replace hl : lv_has ls 3 [(0, .int a1), (1, .int a2)] := lv_sub hl [0, 1] rfl
  refine lv_iload_n hx hb dJ3_checkIndex_8e157_0 rfl (lv_at hl 0 rfl) ?_
  refine lv_if_lt (tgt := 9) hx hb dJ3_checkIndex_8e157_1 rfl (fun c1 => absurd c1 h1) (fun c1 => ?_)
  refine lv_iload_n hx hb dJ3_checkIndex_8e157_4 rfl (lv_at hl 0 rfl) ?_
  refine lv_iload_n hx hb dJ3_checkIndex_8e157_5 rfl (lv_at hl 1 rfl) ?_
  refine lv_icmp_lt (tgt := 16) hx hb dJ3_checkIndex_8e157_6 rfl (fun c2 => ?_) (fun c2 => absurd h2 c2)
  refine lv_iload_n hx hb dJ3_checkIndex_8e157_16 rfl (lv_at hl 0 rfl) ?_
  exact hret _ _ _ _ _ hP hD hS rfl rfl dJ3_checkIndex_8e157_17
set_option maxHeartbeats 4000000 in
set_option maxRecDepth 100000 in
theorem s_checkIndex {l : Launch} {D : va_G} {adK adV : Nat → Nat} {a1 a2 : Int32} (h1 : ¬ a1 < 0) (h2 : a1 < a2) : MetVE l yJ0_checkIndex_df160 cJ0_checkIndex_df160 2 none rm_s_checkIndex D [] [] [] [.int a1, .int a2] adK adV := by
  refine metVE_of (own := RJ0) rfl (by decide) (Nat.le_of_ble_eq_true rfl) ?_
  intro p e s m args below meth c A Q ls S hK hA hP hD hS hl hE hret
  obtain ⟨hx, hb, hml, hown, hts⟩ := id S
  generalize hH : s.heap = H at hP ⊢
  replace hS : va_S A s.heap H [] := by rw [← hH]; exact hS
  generalize hlo : ([] : List Loc) = locs at hS ⊢
  replace hl : lv_has ls 2 [(0, .int a1), (1, .int a2)] := hl
  refine lv_iload_n hx hb dJ0_checkIndex_df160_0 rfl (lv_at hl 0 rfl) ?_
  refine lv_iload_n hx hb dJ0_checkIndex_df160_1 rfl (lv_at hl 1 rfl) ?_
  have key : ∀ v : Value, v.category = 1 → W p l e rm_s_checkIndex s m args below meth c H locs 0 0 Q (F0 m 5 ls [v, .int a2, .int a1]) := by
    intro v hv
    refine mcS_i (As := [.int a1, .int a2, v]) (rest := []) S hK hP hD hS hA (s_pcheck h1 h2 hv) (gdS mw_11_20 mw_11_21 mw_11_22 mw_11_23) rfl rfl hd_s_pcheck ⟨Nat.le_of_ble_eq_true rfl, Nat.le_of_ble_eq_true rfl⟩ rfl hl.1 rfl (Nat.le_of_ble_eq_true rfl) dJ0_checkIndex_df160_5 (fun H locs hP hD hS => ?_)
    refine lv_pop hx hb dJ0_checkIndex_df160_8 rfl ?_
    exact hret _ _ _ _ hP hD hS dJ0_checkIndex_df160_9
  rcases hE.2.2.1 with hz | ⟨t, hz⟩
  · refine va_gets hx hb hz hS hown (hts _ mw_11_19) (fun _ h9 => h9) dJ0_checkIndex_df160_2 ?_
    exact key _ rfl
  · refine va_gets hx hb hz hS hown (hts _ mw_11_19) (fun _ h9 => h9) dJ0_checkIndex_df160_2 ?_
    exact key _ rfl
set_option maxHeartbeats 4000000 in
set_option maxRecDepth 100000 in
theorem s_lcharAt {l : Launch} {D : va_G} {adK adV : Nat → Nat} {i : Nat} (hi : i < 7) {a1 : Int32} (h1 : ¬ a1 < 0) (h2 : a1.toNatClampNeg < strL i) : MetIE l yJ1_charAt_3b067 cJ1_charAt_3b067 2 (some .char) rm_s_lcharAt D [] [] [] [.ref (adV i), .int a1] adK adV (strC i a1.toNatClampNeg) := by
  refine metIE_of (own := RJ1) rfl (by decide) (Nat.le_of_ble_eq_true rfl) ?_
  intro p e s m args below meth c A Q ls S hK hA hP hD hS hl hE hret
  obtain ⟨hx, hb, hml, hown, hts⟩ := id S
  generalize hH : s.heap = H at hP ⊢
  replace hS : va_S A s.heap H [] := by rw [← hH]; exact hS
  generalize hlo : ([] : List Loc) = locs at hS ⊢
  replace hl : lv_has ls 2 [(0, .ref (adV i)), (1, .int a1)] := hl
  have hin : vp_in a1 (strL i) := fun q => q.elim h1 (fun q => absurd h2 (Nat.not_lt.mpr q))
  refine lv_iload_n hx hb dJ1_charAt_3b067_0 rfl (lv_at hl 1 rfl) ?_
  refine lv_aload_n hx hb dJ1_charAt_3b067_1 rfl (lv_at hl 0 rfl) ?_
  refine va_tlen (v := Int32.ofNat (strL i)) hx hb (hE.1.1 i hi).2.2.2 hS rfl dJ1_charAt_3b067_2 ?_
  refine mfS_vE (As := [.int a1, .int (Int32.ofNat (strL i))]) (rest := []) (wc := []) (wr := []) (wf := []) S hK hP hD hS hA hE (s_checkIndex h1 (strL_lt hi h1 h2)) [] [] [] [] rfl rfl rfl rfl rfl (by simp) rfl rfl (gdS mw_11_16 mw_11_17 mw_10_19 mw_11_18) rfl rfl hd_s_checkIndex ⟨Nat.le_of_ble_eq_true rfl, Nat.le_of_ble_eq_true rfl⟩ rfl hl.1 rfl (Nat.le_of_ble_eq_true rfl) dJ1_charAt_3b067_3 (fun H locs hP hD hS => ?_)
  refine lv_aload_n hx hb dJ1_charAt_3b067_6 rfl (lv_at hl 0 rfl) ?_
  refine lv_iload_n hx hb dJ1_charAt_3b067_7 rfl (lv_at hl 1 rfl) ?_
  refine va_tb hx hb (hE.1.1 i hi).2.2.2 hS hin rfl dJ1_charAt_3b067_8 ?_
  refine lv_sipush (v := (255 : Int32)) hx hb dJ1_charAt_3b067_9 (by decide) ?_
  refine lv_iand hx hb dJ1_charAt_3b067_12 ?_
  refine lv_i2c (v := strC i a1.toNatClampNeg) hx hb dJ1_charAt_3b067_13 rfl ?_
  exact hret _ _ _ _ _ hP hD hS rfl (strC_nar i _) dJ1_charAt_3b067_14
set_option maxHeartbeats 4000000 in
set_option maxRecDepth 100000 in
theorem s_charAt {l : Launch} {D : va_G} {adK adV : Nat → Nat} {i : Nat} (hi : i < 7) {a1 : Int32} (h1 : ¬ a1 < 0) (h2 : a1.toNatClampNeg < strL i) : MetIE l yJ0_charAt_5068e cJ0_charAt_5068e 2 (some .char) rm_s_charAt D [] [] [] [.ref (adK i), .int a1] adK adV (strC i a1.toNatClampNeg) := by
  refine metIE_of (own := RJ0) rfl (by decide) (Nat.le_of_ble_eq_true rfl) ?_
  intro p e s m args below meth c A Q ls S hK hA hP hD hS hl hE hret
  obtain ⟨hx, hb, hml, hown, hts⟩ := id S
  generalize hH : s.heap = H at hP ⊢
  replace hS : va_S A s.heap H [] := by rw [← hH]; exact hS
  generalize hlo : ([] : List Loc) = locs at hS ⊢
  replace hl : lv_has ls 2 [(0, .ref (adK i)), (1, .int a1)] := hl
  refine lv_aload_n hx hb dJ0_charAt_5068e_0 rfl (lv_at hl 0 rfl) ?_
  refine mstr_i (As := []) (rest := []) S hK hP hD hS hA hE hi (s_isLatin1 hi) (gdV mw_11_8 mw_11_9 mw_11_10 mw_10_19 mw_11_11) rfl rfl hd_s_isLatin1 ⟨Nat.le_of_ble_eq_true rfl, Nat.le_of_ble_eq_true rfl⟩ rfl rfl hl.1 rfl (Nat.le_of_ble_eq_true rfl) dJ0_charAt_5068e_1 (fun H locs hP hD hS => ?_)
  refine lv_if_eq (tgt := 16) hx hb dJ0_charAt_5068e_4 rfl (fun c1 => absurd c1 (by decide)) (fun c1 => ?_)
  refine lv_aload_n hx hb dJ0_charAt_5068e_7 rfl (lv_at hl 0 rfl) ?_
  refine vk_getf hx hb (hE.1.1 i hi).2.2.1 hS hown (hts _ mw_10_21) (fun _ h9 => h9) dJ0_charAt_5068e_8 ?_
  refine lv_iload_n hx hb dJ0_charAt_5068e_11 rfl (lv_at hl 1 rfl) ?_
  refine mfS_iE (As := [.ref (adV i), .int a1]) (rest := []) (wc := []) (wr := []) (wf := []) S hK hP hD hS hA hE (s_lcharAt hi h1 h2) [] [] [] [] rfl rfl rfl rfl rfl (by simp) rfl rfl (gdS mw_11_12 mw_11_13 mw_11_14 mw_11_15) rfl rfl hd_s_lcharAt ⟨Nat.le_of_ble_eq_true rfl, Nat.le_of_ble_eq_true rfl⟩ rfl hl.1 rfl (Nat.le_of_ble_eq_true rfl) dJ0_charAt_5068e_12 (fun H locs hP hD hS => ?_)
  exact hret _ _ _ _ _ hP hD hS rfl (strC_nar i _) dJ0_charAt_5068e_15
