abbrev rm_i8 : Room := { frames := 2, cells := 9, slots := 63, locals := 33 }
theorem hd_i8_init : yX8_init.cls ≠ "java/lang/invoke/MethodHandle" ∧ yX8_init.cls ≠ "java/lang/invoke/VarHandle" ∧ (parseMethodDescriptor yX8_init.desc).map (fun d => d.parameters.length) = some 1 := by decide +kernel
set_option maxHeartbeats 8000000 in
set_option maxRecDepth 100000 in
theorem i8 {l : Launch} {D : va_G} {a0 b1 : Nat} : MetC l yX8_init cX8_init 2 rm_i8 D [] [(a0, .inr (8, [.null, .int 0, .int 0, .int 0, .null, .null, .null, .int 0]))] [.ref a0, .ref b1] (fun _ => True) 9 63 (fun w t => ∃ (L : List Nat) (cy : Nat → ClassId) (q : Nat) (L2 : List Nat) (cy2 : Nat → ClassId), w = cSt (adOf a0 L) cy q (-1 : Int32) (0 : Int32) (0 : Int32) (fun _ => (0 : Int32)) (fun _ => (0 : Int32)) (fun _ => (0 : Int32)) (0 : Int32) ++ cW (adOf q L2) cy2 b1 (0 : Int32) (0 : Int32) (fun _ => (0 : Int32)) (fun _ => (0 : Int32)) (fun _ => (0 : Int32)) (fun _ => (0 : Int32)) (fun _ => (0 : Int32)) ∧ t = [(cy 1, .int), (cy 2, .int), (cy 3, .int), (cy2 1, .int), (cy2 2, .int), (cy2 3, .int), (cy2 4, .int), (cy2 5, .int)]) := by
  refine metC_of (own := RX8) rfl (by decide) (Nat.le_of_ble_eq_true rfl) ?_
  intro p e s m args below meth c A Q ls S hK hA hP hD hS hl hEv hin hret
  obtain ⟨hx, hb, hml, hown, hts⟩ := id S
  replace hl : lv_has ls 2 [(0, .ref a0), (1, .ref b1)] := hl
  generalize hH : s.heap = H at hP ⊢
  replace hS : va_S A s.heap H [] := by rw [← hH]; exact hS
  generalize hlo : ([] : List Loc) = locs at hS ⊢
  refine lv_aload_n hx hb dX8_init_0 rfl (lv_at hl 0 rfl) ?_
  refine W.objInit hx hb hown (hts _ mw_4_18) (hts _ mw_1_10) (hts _ mw_1_11) rfl (by rw [hml]; exact hl.1) rfl dX8_init_1 (Nat.le_of_ble_eq_true rfl) (Nat.le_of_ble_eq_true rfl) ?_
  refine W.eq (g2 := F0 m 4 ls []) rfl ?_
  refine lv_aload_n hx hb dX8_init_4 rfl (lv_at hl 0 rfl) ?_
  refine lv_iconst (v := (-1 : Int32)) hx hb dX8_init_5 (by decide) ?_
  refine va_put (ci := 8) (v := .int (-1 : Int32)) (ty := .int) (C := RX8) (T := TX8) (N := 8) hx hb hts inlX8 tyX8 tyX8_ok nmX8 hown hK hP hD hS 0 rfl rfl 1 (by decide) (hts _ mw_4_19) (fun _ h9 => h9) rfl (by decide +kernel) rfl rfl (Nat.le_of_ble_eq_true rfl) dX8_init_6 (fun H locs hP hD hS => ?_)
  replace hP : va_P D vwCl ([(a0, .inr (8, [.null, .int (-1 : Int32), .int 0, .int 0, .null, .null, .null, .int 0]))]) H := hP
  replace hD : va_D A ([(a0, .inr (8, [.null, .int (-1 : Int32), .int 0, .int 0, .null, .null, .null, .int 0]))]) := hD
  refine lv_aload_n hx hb dX8_init_9 rfl (lv_at hl 0 rfl) ?_
  refine lv_bipush (v := (10 : Int32)) hx hb dX8_init_10 (by decide) ?_
  refine va_newa (atype := .int) (N' := 10) (a0 := (10, .inl (fun _ => (0 : Int32)))) hx hb (hts _ mw_3_11) rfl hK hP hD hS hA (vpc_i 10) (by decide) rfl (Nat.le_of_ble_eq_true rfl) (Nat.le_of_ble_eq_true rfl) (Nat.le_of_ble_eq_true rfl) dX8_init_12 (fun q1 cA2 H hK hP hD hS => ?_)
  replace hP : va_P D vwCl ([(a0, .inr (8, [.null, .int (-1 : Int32), .int 0, .int 0, .null, .null, .null, .int 0]))] ++ [(q1, .inl (cA2, 10, .inl (fun _ => (0 : Int32))))]) H := hP
  replace hD : va_D A ([(a0, .inr (8, [.null, .int (-1 : Int32), .int 0, .int 0, .null, .null, .null, .int 0]))] ++ [(q1, .inl (cA2, 10, .inl (fun _ => (0 : Int32))))]) := hD
  replace hK : va_K D vwCl [(cA2, .int)] s := hK
  refine W.widen (k := 1) (n := 10) (Nat.le_refl _) (Nat.le_refl _) ?_
  refine va_putF (ci := 8) (v := .ref q1) (ty := (.array .int)) (C := RX8) (T := TX8) (N := 8) hx hb hts inlX8 tyX8 tyX8_ok nmX8 hown hK hP hD hS 0 rfl rfl 4 (by decide) (hts _ mw_4_20) (fun _ h9 => h9) rfl hin rfl (by decide +kernel) rfl rfl (Nat.le_of_ble_eq_true rfl) dX8_init_14 (fun H locs hP hD hS => ?_)
  replace hP : va_P D vwCl ([(a0, .inr (8, [.null, .int (-1 : Int32), .int 0, .int 0, .ref q1, .null, .null, .int 0]))] ++ [(q1, .inl (cA2, 10, .inl (fun _ => (0 : Int32))))]) H := hP
  replace hD : va_D A ([(a0, .inr (8, [.null, .int (-1 : Int32), .int 0, .int 0, .ref q1, .null, .null, .int 0]))] ++ [(q1, .inl (cA2, 10, .inl (fun _ => (0 : Int32))))]) := hD
  refine lv_aload_n hx hb dX8_init_17 rfl (lv_at hl 0 rfl) ?_
  refine lv_bipush (v := (10 : Int32)) hx hb dX8_init_18 (by decide) ?_
  refine va_newa (atype := .int) (N' := 10) (a0 := (10, .inl (fun _ => (0 : Int32)))) hx hb (hts _ mw_3_11) rfl hK hP hD hS hA (vpc_i 10) (by decide) rfl (Nat.le_of_ble_eq_true rfl) (Nat.le_of_ble_eq_true rfl) (Nat.le_of_ble_eq_true rfl) dX8_init_20 (fun q3 cA4 H hK hP hD hS => ?_)
  replace hP : va_P D vwCl ([(a0, .inr (8, [.null, .int (-1 : Int32), .int 0, .int 0, .ref q1, .null, .null, .int 0]))] ++ [(q1, .inl (cA2, 10, .inl (fun _ => (0 : Int32))))] ++ [(q3, .inl (cA4, 10, .inl (fun _ => (0 : Int32))))]) H := hP
  replace hD : va_D A ([(a0, .inr (8, [.null, .int (-1 : Int32), .int 0, .int 0, .ref q1, .null, .null, .int 0]))] ++ [(q1, .inl (cA2, 10, .inl (fun _ => (0 : Int32))))] ++ [(q3, .inl (cA4, 10, .inl (fun _ => (0 : Int32))))]) := hD
  replace hK : va_K D vwCl [(cA2, .int), (cA4, .int)] s := hK
  refine W.widen (k := 2) (n := 20) (Nat.le_refl _) (Nat.le_refl _) ?_
  refine va_putF (ci := 8) (v := .ref q3) (ty := (.array .int)) (C := RX8) (T := TX8) (N := 8) hx hb hts inlX8 tyX8 tyX8_ok nmX8 hown hK hP hD hS 0 rfl rfl 5 (by decide) (hts _ mw_4_21) (fun _ h9 => h9) rfl hin rfl (by decide +kernel) rfl rfl (Nat.le_of_ble_eq_true rfl) dX8_init_22 (fun H locs hP hD hS => ?_)
  replace hP : va_P D vwCl ([(a0, .inr (8, [.null, .int (-1 : Int32), .int 0, .int 0, .ref q1, .ref q3, .null, .int 0]))] ++ [(q1, .inl (cA2, 10, .inl (fun _ => (0 : Int32))))] ++ [(q3, .inl (cA4, 10, .inl (fun _ => (0 : Int32))))]) H := hP
  replace hD : va_D A ([(a0, .inr (8, [.null, .int (-1 : Int32), .int 0, .int 0, .ref q1, .ref q3, .null, .int 0]))] ++ [(q1, .inl (cA2, 10, .inl (fun _ => (0 : Int32))))] ++ [(q3, .inl (cA4, 10, .inl (fun _ => (0 : Int32))))]) := hD
  refine lv_aload_n hx hb dX8_init_25 rfl (lv_at hl 0 rfl) ?_
  refine lv_bipush (v := (10 : Int32)) hx hb dX8_init_26 (by decide) ?_
  refine va_newa (atype := .int) (N' := 10) (a0 := (10, .inl (fun _ => (0 : Int32)))) hx hb (hts _ mw_3_11) rfl hK hP hD hS hA (vpc_i 10) (by decide) rfl (Nat.le_of_ble_eq_true rfl) (Nat.le_of_ble_eq_true rfl) (Nat.le_of_ble_eq_true rfl) dX8_init_28 (fun q5 cA6 H hK hP hD hS => ?_)
  replace hP : va_P D vwCl ([(a0, .inr (8, [.null, .int (-1 : Int32), .int 0, .int 0, .ref q1, .ref q3, .null, .int 0]))] ++ [(q1, .inl (cA2, 10, .inl (fun _ => (0 : Int32))))] ++ [(q3, .inl (cA4, 10, .inl (fun _ => (0 : Int32))))] ++ [(q5, .inl (cA6, 10, .inl (fun _ => (0 : Int32))))]) H := hP
  replace hD : va_D A ([(a0, .inr (8, [.null, .int (-1 : Int32), .int 0, .int 0, .ref q1, .ref q3, .null, .int 0]))] ++ [(q1, .inl (cA2, 10, .inl (fun _ => (0 : Int32))))] ++ [(q3, .inl (cA4, 10, .inl (fun _ => (0 : Int32))))] ++ [(q5, .inl (cA6, 10, .inl (fun _ => (0 : Int32))))]) := hD
  replace hK : va_K D vwCl [(cA2, .int), (cA4, .int), (cA6, .int)] s := hK
  refine W.widen (k := 3) (n := 30) (Nat.le_refl _) (Nat.le_refl _) ?_
  refine va_putF (ci := 8) (v := .ref q5) (ty := (.array .int)) (C := RX8) (T := TX8) (N := 8) hx hb hts inlX8 tyX8 tyX8_ok nmX8 hown hK hP hD hS 0 rfl rfl 6 (by decide) (hts _ mw_4_22) (fun _ h9 => h9) rfl hin rfl (by decide +kernel) rfl rfl (Nat.le_of_ble_eq_true rfl) dX8_init_30 (fun H locs hP hD hS => ?_)
  replace hP : va_P D vwCl ([(a0, .inr (8, [.null, .int (-1 : Int32), .int 0, .int 0, .ref q1, .ref q3, .ref q5, .int 0]))] ++ [(q1, .inl (cA2, 10, .inl (fun _ => (0 : Int32))))] ++ [(q3, .inl (cA4, 10, .inl (fun _ => (0 : Int32))))] ++ [(q5, .inl (cA6, 10, .inl (fun _ => (0 : Int32))))]) H := hP
  replace hD : va_D A ([(a0, .inr (8, [.null, .int (-1 : Int32), .int 0, .int 0, .ref q1, .ref q3, .ref q5, .int 0]))] ++ [(q1, .inl (cA2, 10, .inl (fun _ => (0 : Int32))))] ++ [(q3, .inl (cA4, 10, .inl (fun _ => (0 : Int32))))] ++ [(q5, .inl (cA6, 10, .inl (fun _ => (0 : Int32))))]) := hD
  refine lv_aload_n hx hb dX8_init_33 rfl (lv_at hl 0 rfl) ?_
  refine va_new (ci := 10) (fs := [.null, .int 0, .int 0, .null, .null, .null, .null, .null]) (C := RX10) (T := TX10) (N := 8) hx hb hts inlX10 tyX10 tyX10_ok hown (hts _ mw_4_23) (hts _ mw_2_12) (hts _ mw_2_13) hK hP hD hS hA rfl (fun j hj => by rcases (show j = 0 ∨ j = 1 ∨ j = 2 ∨ j = 3 ∨ j = 4 ∨ j = 5 ∨ j = 6 ∨ j = 7 by omega) with rfl | rfl | rfl | rfl | rfl | rfl | rfl | rfl <;> rfl) (Nat.le_of_ble_eq_true rfl) (Nat.le_of_ble_eq_true rfl) dX8_init_34 (fun q7 H hP hD hS => ?_)
  replace hP : va_P D vwCl ([(a0, .inr (8, [.null, .int (-1 : Int32), .int 0, .int 0, .ref q1, .ref q3, .ref q5, .int 0]))] ++ [(q1, .inl (cA2, 10, .inl (fun _ => (0 : Int32))))] ++ [(q3, .inl (cA4, 10, .inl (fun _ => (0 : Int32))))] ++ [(q5, .inl (cA6, 10, .inl (fun _ => (0 : Int32))))] ++ [(q7, .inr (10, [.null, .int 0, .int 0, .null, .null, .null, .null, .null]))]) H := hP
  replace hD : va_D A ([(a0, .inr (8, [.null, .int (-1 : Int32), .int 0, .int 0, .ref q1, .ref q3, .ref q5, .int 0]))] ++ [(q1, .inl (cA2, 10, .inl (fun _ => (0 : Int32))))] ++ [(q3, .inl (cA4, 10, .inl (fun _ => (0 : Int32))))] ++ [(q5, .inl (cA6, 10, .inl (fun _ => (0 : Int32))))] ++ [(q7, .inr (10, [.null, .int 0, .int 0, .null, .null, .null, .null, .null]))]) := hD
  refine W.widen (k := 4) (n := 38) (Nat.le_refl _) (Nat.le_refl _) ?_
  refine lv_dup hx hb dX8_init_37 rfl ?_
  refine lv_aload_n hx hb dX8_init_38 rfl (lv_at hl 1 rfl) ?_
  refine mI (As := [.ref b1]) (rest := [.ref q7, .ref a0]) (wr := [(a0, .inr (8, [.null, .int (-1 : Int32), .int 0, .int 0, .ref q1, .ref q3, .ref q5, .int 0]))] ++ [(q1, .inl (cA2, 10, .inl (fun _ => (0 : Int32))))] ++ [(q3, .inl (cA4, 10, .inl (fun _ => (0 : Int32))))] ++ [(q5, .inl (cA6, 10, .inl (fun _ => (0 : Int32))))]) S hK hP hD hS hA (i10 (D := D) (l := l)) [] [4] [0, 1, 2, 3] rfl rfl rfl (by decide) (by decide) (by decide) mw_5_3 mw_2_13 mw_5_1 mw_5_2 rfl rfl rfl hd_i10_init ⟨Nat.le_of_ble_eq_true rfl, Nat.le_of_ble_eq_true rfl⟩ rfl hl.1 rfl (Nat.le_of_ble_eq_true rfl) dX8_init_39 ⟨Nat.le_of_ble_eq_true rfl, Nat.le_of_ble_eq_true rfl⟩ (fun w1 t1 H locs hZ hK hP hD hS => ?_)
  obtain ⟨L8_L, L8_cy, rfl, rfl⟩ := hZ
  replace hP : va_P D vwCl ([(a0, .inr (8, [.null, .int (-1 : Int32), .int 0, .int 0, .ref q1, .ref q3, .ref q5, .int 0]))] ++ [(q1, .inl (cA2, 10, .inl (fun _ => (0 : Int32))))] ++ [(q3, .inl (cA4, 10, .inl (fun _ => (0 : Int32))))] ++ [(q5, .inl (cA6, 10, .inl (fun _ => (0 : Int32))))] ++ cW (adOf q7 L8_L) L8_cy b1 (0 : Int32) (0 : Int32) (fun _ => (0 : Int32)) (fun _ => (0 : Int32)) (fun _ => (0 : Int32)) (fun _ => (0 : Int32)) (fun _ => (0 : Int32))) H := hP
  replace hD : va_D A ([(a0, .inr (8, [.null, .int (-1 : Int32), .int 0, .int 0, .ref q1, .ref q3, .ref q5, .int 0]))] ++ [(q1, .inl (cA2, 10, .inl (fun _ => (0 : Int32))))] ++ [(q3, .inl (cA4, 10, .inl (fun _ => (0 : Int32))))] ++ [(q5, .inl (cA6, 10, .inl (fun _ => (0 : Int32))))] ++ cW (adOf q7 L8_L) L8_cy b1 (0 : Int32) (0 : Int32) (fun _ => (0 : Int32)) (fun _ => (0 : Int32)) (fun _ => (0 : Int32)) (fun _ => (0 : Int32)) (fun _ => (0 : Int32))) := hD
  replace hK : va_K D vwCl [(cA2, .int), (cA4, .int), (cA6, .int), (L8_cy 1, .int), (L8_cy 2, .int), (L8_cy 3, .int), (L8_cy 4, .int), (L8_cy 5, .int)] s := hK
  refine W.widen (k := 9) (n := 63) (Nat.le_refl _) (Nat.le_refl _) ?_
  refine va_putF (ci := 8) (v := .ref q7) (ty := (.object "LadderLand$World")) (C := RX8) (T := TX8) (N := 8) hx hb hts inlX8 tyX8 tyX8_ok nmX8 hown hK hP hD hS 0 rfl rfl 0 (by decide) (hts _ mw_5_0) (fun _ h9 => h9) rfl hin rfl (by decide +kernel) rfl rfl (Nat.le_of_ble_eq_true rfl) dX8_init_42 (fun H locs hP hD hS => ?_)
  replace hP : va_P D vwCl ([(a0, .inr (8, [.ref q7, .int (-1 : Int32), .int 0, .int 0, .ref q1, .ref q3, .ref q5, .int 0]))] ++ [(q1, .inl (cA2, 10, .inl (fun _ => (0 : Int32))))] ++ [(q3, .inl (cA4, 10, .inl (fun _ => (0 : Int32))))] ++ [(q5, .inl (cA6, 10, .inl (fun _ => (0 : Int32))))] ++ cW (adOf q7 L8_L) L8_cy b1 (0 : Int32) (0 : Int32) (fun _ => (0 : Int32)) (fun _ => (0 : Int32)) (fun _ => (0 : Int32)) (fun _ => (0 : Int32)) (fun _ => (0 : Int32))) H := hP
  replace hD : va_D A ([(a0, .inr (8, [.ref q7, .int (-1 : Int32), .int 0, .int 0, .ref q1, .ref q3, .ref q5, .int 0]))] ++ [(q1, .inl (cA2, 10, .inl (fun _ => (0 : Int32))))] ++ [(q3, .inl (cA4, 10, .inl (fun _ => (0 : Int32))))] ++ [(q5, .inl (cA6, 10, .inl (fun _ => (0 : Int32))))] ++ cW (adOf q7 L8_L) L8_cy b1 (0 : Int32) (0 : Int32) (fun _ => (0 : Int32)) (fun _ => (0 : Int32)) (fun _ => (0 : Int32)) (fun _ => (0 : Int32)) (fun _ => (0 : Int32))) := hD
  have hP9 := hP.sub (ws' := cSt (adOf a0 [q1, q3, q5]) (cyOf [cA2, cA4, cA6]) q7 (-1 : Int32) (0 : Int32) (0 : Int32) (fun _ => (0 : Int32)) (fun _ => (0 : Int32)) (fun _ => (0 : Int32)) (0 : Int32) ++ cW (adOf q7 L8_L) L8_cy b1 (0 : Int32) (0 : Int32) (fun _ => (0 : Int32)) (fun _ => (0 : Int32)) (fun _ => (0 : Int32)) (fun _ => (0 : Int32)) (fun _ => (0 : Int32))) [0, 1, 2, 3, 4, 5, 6, 7, 8, 9] rfl
  have hD9 := hD.sub (ws' := cSt (adOf a0 [q1, q3, q5]) (cyOf [cA2, cA4, cA6]) q7 (-1 : Int32) (0 : Int32) (0 : Int32) (fun _ => (0 : Int32)) (fun _ => (0 : Int32)) (fun _ => (0 : Int32)) (0 : Int32) ++ cW (adOf q7 L8_L) L8_cy b1 (0 : Int32) (0 : Int32) (fun _ => (0 : Int32)) (fun _ => (0 : Int32)) (fun _ => (0 : Int32)) (fun _ => (0 : Int32)) (fun _ => (0 : Int32))) [0, 1, 2, 3, 4, 5, 6, 7, 8, 9] (by decide) rfl
  have hK9 := hK.sub (tys' := [((cyOf [cA2, cA4, cA6]) 1, .int), ((cyOf [cA2, cA4, cA6]) 2, .int), ((cyOf [cA2, cA4, cA6]) 3, .int), (L8_cy 1, .int), (L8_cy 2, .int), (L8_cy 3, .int), (L8_cy 4, .int), (L8_cy 5, .int)]) [0, 1, 2, 3, 4, 5, 6, 7] rfl
  exact hret _ _ _ _ _ _ ⟨[q1, q3, q5], (cyOf [cA2, cA4, cA6]), q7, L8_L, L8_cy, rfl, rfl⟩ hK9 hP9 hD9 hS dX8_init_45
