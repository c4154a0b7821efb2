theorem vpc_i (N : Nat) (cA : ClassId) : vp_cell cA (N, .inl (fun _ => (0 : Int32))) = arrV cA N (fun _ => defaultValue .int) := rfl
theorem vpc_b (N : Nat) (cA : ClassId) : vp_cell cA (N, .inl (fun _ => (0 : Int32))) = arrV cA N (fun _ => defaultValue .byte) := rfl
theorem vpc_z (N : Nat) (cA : ClassId) : vp_cell cA (N, .inl (fun _ => (0 : Int32))) = arrV cA N (fun _ => defaultValue .boolean) := rfl
theorem vpc_j (N : Nat) (cA : ClassId) : vp_cell cA (N, .inr (.inl (fun _ => (0 : Int64)))) = arrV cA N (fun _ => defaultValue .long) := rfl
abbrev rm_i1 : Room := { frames := 1, cells := 6, slots := 34, locals := 23 }
theorem hd_i1_init : yX1_init.cls ≠ "java/lang/invoke/MethodHandle" ∧ yX1_init.cls ≠ "java/lang/invoke/VarHandle" ∧ (parseMethodDescriptor yX1_init.desc).map (fun d => d.parameters.length) = some 0 := by decide +kernel
set_option maxHeartbeats 4000000 in
set_option maxRecDepth 100000 in
theorem i1 {l : Launch} {D : va_G} {a0  : Nat} {z13 : Nat → Int32} {z14 : Nat → Int32} (hf0 : fJ7_fill 9 (fun _ => (0 : Int32)) (2 : Int32) = some z13) (hf1 : fJ7_fill 9 (fun _ => (0 : Int32)) (200 : Int32) = some z14) : MetC l yX1_init cX1_init 1 rm_i1 D [] [(a0, .inr (1, [.int 0, .int 0, .int 0, .null, .null, .null, .null, .null, .null]))] [.ref a0] (fun _ => True) 6 34 (fun w t => ∃ (L : List Nat) (cy : Nat → ClassId), w = cLd (adOf a0 L) cy (0 : Int32) (0 : Int32) (0 : Int32) z13 z14 (fun _ => (0 : Int32)) (fun _ => (0 : Int32)) (fun _ => (0 : Int32)) (fun _ => (0 : Int32)) ∧ t = [(cy 1, .int), (cy 2, .int), (cy 3, .int), (cy 4, .int), (cy 5, .int), (cy 6, .int)]) := by
  refine metC_of (own := RX1) rfl (by decide) (Nat.le_of_ble_eq_true rfl) ?_
  intro p e s m args below meth c A Q ls S hK hA hP hD hS hl hEv hin hret
  obtain ⟨hx, hb, hml, hown, hts⟩ := id S
  replace hl : lv_has ls 1 [(0, .ref a0)] := hl
  generalize hH : s.heap = H at hP ⊢
  replace hS : va_S A s.heap H [] := by rw [← hH]; exact hS
  generalize hlo : ([] : List Loc) = locs at hS ⊢
  refine lv_aload_n hx hb dX1_init_0 rfl (lv_at hl 0 rfl) ?_
  refine W.objInit hx hb hown (hts _ mw_3_10) (hts _ mw_1_10) (hts _ mw_1_11) rfl (by rw [hml]; exact hl.1) rfl dX1_init_1 (Nat.le_of_ble_eq_true rfl) (Nat.le_of_ble_eq_true rfl) ?_
  refine W.eq (g2 := F0 m 4 ls []) rfl ?_
  refine lv_aload_n hx hb dX1_init_4 rfl (lv_at hl 0 rfl) ?_
  refine lv_bipush (v := (9 : Int32)) hx hb dX1_init_5 (by decide) ?_
  refine va_newa (atype := .int) (N' := 9) (a0 := (9, .inl (fun _ => (0 : Int32)))) hx hb (hts _ mw_3_11) rfl hK hP hD hS hA (vpc_i 9) (by decide) rfl (Nat.le_of_ble_eq_true rfl) (Nat.le_of_ble_eq_true rfl) (Nat.le_of_ble_eq_true rfl) dX1_init_7 (fun q1 cA2 H hK hP hD hS => ?_)
  replace hP : va_P D vwCl ([(a0, .inr (1, [.int 0, .int 0, .int 0, .null, .null, .null, .null, .null, .null]))] ++ [(q1, .inl (cA2, 9, .inl (fun _ => (0 : Int32))))]) H := hP
  replace hD : va_D A ([(a0, .inr (1, [.int 0, .int 0, .int 0, .null, .null, .null, .null, .null, .null]))] ++ [(q1, .inl (cA2, 9, .inl (fun _ => (0 : Int32))))]) := hD
  replace hK : va_K D vwCl [(cA2, .int)] s := hK
  refine W.widen (k := 1) (n := 9) (Nat.le_refl _) (Nat.le_refl _) ?_
  refine va_putF (ci := 1) (v := .ref q1) (ty := (.array .int)) (C := RX1) (T := TX1) (N := 9) hx hb hts inlX1 tyX1 tyX1_ok nmX1 hown hK hP hD hS 0 rfl rfl 3 (by decide) (hts _ mw_3_12) (fun _ h9 => h9) rfl hin rfl (by decide +kernel) rfl rfl (Nat.le_of_ble_eq_true rfl) dX1_init_9 (fun H locs hP hD hS => ?_)
  replace hP : va_P D vwCl ([(a0, .inr (1, [.int 0, .int 0, .int 0, .ref q1, .null, .null, .null, .null, .null]))] ++ [(q1, .inl (cA2, 9, .inl (fun _ => (0 : Int32))))]) H := hP
  replace hD : va_D A ([(a0, .inr (1, [.int 0, .int 0, .int 0, .ref q1, .null, .null, .null, .null, .null]))] ++ [(q1, .inl (cA2, 9, .inl (fun _ => (0 : Int32))))]) := hD
  refine lv_aload_n hx hb dX1_init_12 rfl (lv_at hl 0 rfl) ?_
  refine lv_bipush (v := (9 : Int32)) hx hb dX1_init_13 (by decide) ?_
  refine va_newa (atype := .int) (N' := 9) (a0 := (9, .inl (fun _ => (0 : Int32)))) hx hb (hts _ mw_3_11) rfl hK hP hD hS hA (vpc_i 9) (by decide) rfl (Nat.le_of_ble_eq_true rfl) (Nat.le_of_ble_eq_true rfl) (Nat.le_of_ble_eq_true rfl) dX1_init_15 (fun q3 cA4 H hK hP hD hS => ?_)
  replace hP : va_P D vwCl ([(a0, .inr (1, [.int 0, .int 0, .int 0, .ref q1, .null, .null, .null, .null, .null]))] ++ [(q1, .inl (cA2, 9, .inl (fun _ => (0 : Int32))))] ++ [(q3, .inl (cA4, 9, .inl (fun _ => (0 : Int32))))]) H := hP
  replace hD : va_D A ([(a0, .inr (1, [.int 0, .int 0, .int 0, .ref q1, .null, .null, .null, .null, .null]))] ++ [(q1, .inl (cA2, 9, .inl (fun _ => (0 : Int32))))] ++ [(q3, .inl (cA4, 9, .inl (fun _ => (0 : Int32))))]) := hD
  replace hK : va_K D vwCl [(cA2, .int), (cA4, .int)] s := hK
  refine W.widen (k := 2) (n := 18) (Nat.le_refl _) (Nat.le_refl _) ?_
  refine va_putF (ci := 1) (v := .ref q3) (ty := (.array .int)) (C := RX1) (T := TX1) (N := 9) hx hb hts inlX1 tyX1 tyX1_ok nmX1 hown hK hP hD hS 0 rfl rfl 4 (by decide) (hts _ mw_3_13) (fun _ h9 => h9) rfl hin rfl (by decide +kernel) rfl rfl (Nat.le_of_ble_eq_true rfl) dX1_init_17 (fun H locs hP hD hS => ?_)
  replace hP : va_P D vwCl ([(a0, .inr (1, [.int 0, .int 0, .int 0, .ref q1, .ref q3, .null, .null, .null, .null]))] ++ [(q1, .inl (cA2, 9, .inl (fun _ => (0 : Int32))))] ++ [(q3, .inl (cA4, 9, .inl (fun _ => (0 : Int32))))]) H := hP
  replace hD : va_D A ([(a0, .inr (1, [.int 0, .int 0, .int 0, .ref q1, .ref q3, .null, .null, .null, .null]))] ++ [(q1, .inl (cA2, 9, .inl (fun _ => (0 : Int32))))] ++ [(q3, .inl (cA4, 9, .inl (fun _ => (0 : Int32))))]) := hD
  refine lv_aload_n hx hb dX1_init_20 rfl (lv_at hl 0 rfl) ?_
  refine lv_iconst (v := (4 : Int32)) hx hb dX1_init_21 (by decide) ?_
  refine va_newa (atype := .int) (N' := 4) (a0 := (4, .inl (fun _ => (0 : Int32)))) hx hb (hts _ mw_3_11) rfl hK hP hD hS hA (vpc_i 4) (by decide) rfl (Nat.le_of_ble_eq_true rfl) (Nat.le_of_ble_eq_true rfl) (Nat.le_of_ble_eq_true rfl) dX1_init_22 (fun q5 cA6 H hK hP hD hS => ?_)
  replace hP : va_P D vwCl ([(a0, .inr (1, [.int 0, .int 0, .int 0, .ref q1, .ref q3, .null, .null, .null, .null]))] ++ [(q1, .inl (cA2, 9, .inl (fun _ => (0 : Int32))))] ++ [(q3, .inl (cA4, 9, .inl (fun _ => (0 : Int32))))] ++ [(q5, .inl (cA6, 4, .inl (fun _ => (0 : Int32))))]) H := hP
  replace hD : va_D A ([(a0, .inr (1, [.int 0, .int 0, .int 0, .ref q1, .ref q3, .null, .null, .null, .null]))] ++ [(q1, .inl (cA2, 9, .inl (fun _ => (0 : Int32))))] ++ [(q3, .inl (cA4, 9, .inl (fun _ => (0 : Int32))))] ++ [(q5, .inl (cA6, 4, .inl (fun _ => (0 : Int32))))]) := hD
  replace hK : va_K D vwCl [(cA2, .int), (cA4, .int), (cA6, .int)] s := hK
  refine W.widen (k := 3) (n := 22) (Nat.le_refl _) (Nat.le_refl _) ?_
  refine va_putF (ci := 1) (v := .ref q5) (ty := (.array .int)) (C := RX1) (T := TX1) (N := 9) hx hb hts inlX1 tyX1 tyX1_ok nmX1 hown hK hP hD hS 0 rfl rfl 5 (by decide) (hts _ mw_3_14) (fun _ h9 => h9) rfl hin rfl (by decide +kernel) rfl rfl (Nat.le_of_ble_eq_true rfl) dX1_init_24 (fun H locs hP hD hS => ?_)
  replace hP : va_P D vwCl ([(a0, .inr (1, [.int 0, .int 0, .int 0, .ref q1, .ref q3, .ref q5, .null, .null, .null]))] ++ [(q1, .inl (cA2, 9, .inl (fun _ => (0 : Int32))))] ++ [(q3, .inl (cA4, 9, .inl (fun _ => (0 : Int32))))] ++ [(q5, .inl (cA6, 4, .inl (fun _ => (0 : Int32))))]) H := hP
  replace hD : va_D A ([(a0, .inr (1, [.int 0, .int 0, .int 0, .ref q1, .ref q3, .ref q5, .null, .null, .null]))] ++ [(q1, .inl (cA2, 9, .inl (fun _ => (0 : Int32))))] ++ [(q3, .inl (cA4, 9, .inl (fun _ => (0 : Int32))))] ++ [(q5, .inl (cA6, 4, .inl (fun _ => (0 : Int32))))]) := hD
  refine lv_aload_n hx hb dX1_init_27 rfl (lv_at hl 0 rfl) ?_
  refine lv_iconst (v := (4 : Int32)) hx hb dX1_init_28 (by decide) ?_
  refine va_newa (atype := .int) (N' := 4) (a0 := (4, .inl (fun _ => (0 : Int32)))) hx hb (hts _ mw_3_11) rfl hK hP hD hS hA (vpc_i 4) (by decide) rfl (Nat.le_of_ble_eq_true rfl) (Nat.le_of_ble_eq_true rfl) (Nat.le_of_ble_eq_true rfl) dX1_init_29 (fun q7 cA8 H hK hP hD hS => ?_)
  replace hP : va_P D vwCl ([(a0, .inr (1, [.int 0, .int 0, .int 0, .ref q1, .ref q3, .ref q5, .null, .null, .null]))] ++ [(q1, .inl (cA2, 9, .inl (fun _ => (0 : Int32))))] ++ [(q3, .inl (cA4, 9, .inl (fun _ => (0 : Int32))))] ++ [(q5, .inl (cA6, 4, .inl (fun _ => (0 : Int32))))] ++ [(q7, .inl (cA8, 4, .inl (fun _ => (0 : Int32))))]) H := hP
  replace hD : va_D A ([(a0, .inr (1, [.int 0, .int 0, .int 0, .ref q1, .ref q3, .ref q5, .null, .null, .null]))] ++ [(q1, .inl (cA2, 9, .inl (fun _ => (0 : Int32))))] ++ [(q3, .inl (cA4, 9, .inl (fun _ => (0 : Int32))))] ++ [(q5, .inl (cA6, 4, .inl (fun _ => (0 : Int32))))] ++ [(q7, .inl (cA8, 4, .inl (fun _ => (0 : Int32))))]) := hD
  replace hK : va_K D vwCl [(cA2, .int), (cA4, .int), (cA6, .int), (cA8, .int)] s := hK
  refine W.widen (k := 4) (n := 26) (Nat.le_refl _) (Nat.le_refl _) ?_
  refine va_putF (ci := 1) (v := .ref q7) (ty := (.array .int)) (C := RX1) (T := TX1) (N := 9) hx hb hts inlX1 tyX1 tyX1_ok nmX1 hown hK hP hD hS 0 rfl rfl 6 (by decide) (hts _ mw_3_15) (fun _ h9 => h9) rfl hin rfl (by decide +kernel) rfl rfl (Nat.le_of_ble_eq_true rfl) dX1_init_31 (fun H locs hP hD hS => ?_)
  replace hP : va_P D vwCl ([(a0, .inr (1, [.int 0, .int 0, .int 0, .ref q1, .ref q3, .ref q5, .ref q7, .null, .null]))] ++ [(q1, .inl (cA2, 9, .inl (fun _ => (0 : Int32))))] ++ [(q3, .inl (cA4, 9, .inl (fun _ => (0 : Int32))))] ++ [(q5, .inl (cA6, 4, .inl (fun _ => (0 : Int32))))] ++ [(q7, .inl (cA8, 4, .inl (fun _ => (0 : Int32))))]) H := hP
  replace hD : va_D A ([(a0, .inr (1, [.int 0, .int 0, .int 0, .ref q1, .ref q3, .ref q5, .ref q7, .null, .null]))] ++ [(q1, .inl (cA2, 9, .inl (fun _ => (0 : Int32))))] ++ [(q3, .inl (cA4, 9, .inl (fun _ => (0 : Int32))))] ++ [(q5, .inl (cA6, 4, .inl (fun _ => (0 : Int32))))] ++ [(q7, .inl (cA8, 4, .inl (fun _ => (0 : Int32))))]) := hD
  refine lv_aload_n hx hb dX1_init_34 rfl (lv_at hl 0 rfl) ?_
  refine lv_iconst (v := (4 : Int32)) hx hb dX1_init_35 (by decide) ?_
  refine va_newa (atype := .int) (N' := 4) (a0 := (4, .inl (fun _ => (0 : Int32)))) hx hb (hts _ mw_3_11) rfl hK hP hD hS hA (vpc_i 4) (by decide) rfl (Nat.le_of_ble_eq_true rfl) (Nat.le_of_ble_eq_true rfl) (Nat.le_of_ble_eq_true rfl) dX1_init_36 (fun q9 cA10 H hK hP hD hS => ?_)
  replace hP : va_P D vwCl ([(a0, .inr (1, [.int 0, .int 0, .int 0, .ref q1, .ref q3, .ref q5, .ref q7, .null, .null]))] ++ [(q1, .inl (cA2, 9, .inl (fun _ => (0 : Int32))))] ++ [(q3, .inl (cA4, 9, .inl (fun _ => (0 : Int32))))] ++ [(q5, .inl (cA6, 4, .inl (fun _ => (0 : Int32))))] ++ [(q7, .inl (cA8, 4, .inl (fun _ => (0 : Int32))))] ++ [(q9, .inl (cA10, 4, .inl (fun _ => (0 : Int32))))]) H := hP
  replace hD : va_D A ([(a0, .inr (1, [.int 0, .int 0, .int 0, .ref q1, .ref q3, .ref q5, .ref q7, .null, .null]))] ++ [(q1, .inl (cA2, 9, .inl (fun _ => (0 : Int32))))] ++ [(q3, .inl (cA4, 9, .inl (fun _ => (0 : Int32))))] ++ [(q5, .inl (cA6, 4, .inl (fun _ => (0 : Int32))))] ++ [(q7, .inl (cA8, 4, .inl (fun _ => (0 : Int32))))] ++ [(q9, .inl (cA10, 4, .inl (fun _ => (0 : Int32))))]) := hD
  replace hK : va_K D vwCl [(cA2, .int), (cA4, .int), (cA6, .int), (cA8, .int), (cA10, .int)] s := hK
  refine W.widen (k := 5) (n := 30) (Nat.le_refl _) (Nat.le_refl _) ?_
  refine va_putF (ci := 1) (v := .ref q9) (ty := (.array .int)) (C := RX1) (T := TX1) (N := 9) hx hb hts inlX1 tyX1 tyX1_ok nmX1 hown hK hP hD hS 0 rfl rfl 7 (by decide) (hts _ mw_3_16) (fun _ h9 => h9) rfl hin rfl (by decide +kernel) rfl rfl (Nat.le_of_ble_eq_true rfl) dX1_init_38 (fun H locs hP hD hS => ?_)
  replace hP : va_P D vwCl ([(a0, .inr (1, [.int 0, .int 0, .int 0, .ref q1, .ref q3, .ref q5, .ref q7, .ref q9, .null]))] ++ [(q1, .inl (cA2, 9, .inl (fun _ => (0 : Int32))))] ++ [(q3, .inl (cA4, 9, .inl (fun _ => (0 : Int32))))] ++ [(q5, .inl (cA6, 4, .inl (fun _ => (0 : Int32))))] ++ [(q7, .inl (cA8, 4, .inl (fun _ => (0 : Int32))))] ++ [(q9, .inl (cA10, 4, .inl (fun _ => (0 : Int32))))]) H := hP
  replace hD : va_D A ([(a0, .inr (1, [.int 0, .int 0, .int 0, .ref q1, .ref q3, .ref q5, .ref q7, .ref q9, .null]))] ++ [(q1, .inl (cA2, 9, .inl (fun _ => (0 : Int32))))] ++ [(q3, .inl (cA4, 9, .inl (fun _ => (0 : Int32))))] ++ [(q5, .inl (cA6, 4, .inl (fun _ => (0 : Int32))))] ++ [(q7, .inl (cA8, 4, .inl (fun _ => (0 : Int32))))] ++ [(q9, .inl (cA10, 4, .inl (fun _ => (0 : Int32))))]) := hD
  refine lv_aload_n hx hb dX1_init_41 rfl (lv_at hl 0 rfl) ?_
  refine lv_iconst (v := (4 : Int32)) hx hb dX1_init_42 (by decide) ?_
  refine va_newa (atype := .int) (N' := 4) (a0 := (4, .inl (fun _ => (0 : Int32)))) hx hb (hts _ mw_3_11) rfl hK hP hD hS hA (vpc_i 4) (by decide) rfl (Nat.le_of_ble_eq_true rfl) (Nat.le_of_ble_eq_true rfl) (Nat.le_of_ble_eq_true rfl) dX1_init_43 (fun q11 cA12 H hK hP hD hS => ?_)
  replace hP : va_P D vwCl ([(a0, .inr (1, [.int 0, .int 0, .int 0, .ref q1, .ref q3, .ref q5, .ref q7, .ref q9, .null]))] ++ [(q1, .inl (cA2, 9, .inl (fun _ => (0 : Int32))))] ++ [(q3, .inl (cA4, 9, .inl (fun _ => (0 : Int32))))] ++ [(q5, .inl (cA6, 4, .inl (fun _ => (0 : Int32))))] ++ [(q7, .inl (cA8, 4, .inl (fun _ => (0 : Int32))))] ++ [(q9, .inl (cA10, 4, .inl (fun _ => (0 : Int32))))] ++ [(q11, .inl (cA12, 4, .inl (fun _ => (0 : Int32))))]) H := hP
  replace hD : va_D A ([(a0, .inr (1, [.int 0, .int 0, .int 0, .ref q1, .ref q3, .ref q5, .ref q7, .ref q9, .null]))] ++ [(q1, .inl (cA2, 9, .inl (fun _ => (0 : Int32))))] ++ [(q3, .inl (cA4, 9, .inl (fun _ => (0 : Int32))))] ++ [(q5, .inl (cA6, 4, .inl (fun _ => (0 : Int32))))] ++ [(q7, .inl (cA8, 4, .inl (fun _ => (0 : Int32))))] ++ [(q9, .inl (cA10, 4, .inl (fun _ => (0 : Int32))))] ++ [(q11, .inl (cA12, 4, .inl (fun _ => (0 : Int32))))]) := hD
  replace hK : va_K D vwCl [(cA2, .int), (cA4, .int), (cA6, .int), (cA8, .int), (cA10, .int), (cA12, .int)] s := hK
  refine W.widen (k := 6) (n := 34) (Nat.le_refl _) (Nat.le_refl _) ?_
  refine va_putF (ci := 1) (v := .ref q11) (ty := (.array .int)) (C := RX1) (T := TX1) (N := 9) hx hb hts inlX1 tyX1 tyX1_ok nmX1 hown hK hP hD hS 0 rfl rfl 8 (by decide) (hts _ mw_3_17) (fun _ h9 => h9) rfl hin rfl (by decide +kernel) rfl rfl (Nat.le_of_ble_eq_true rfl) dX1_init_45 (fun H locs hP hD hS => ?_)
  replace hP : va_P D vwCl ([(a0, .inr (1, [.int 0, .int 0, .int 0, .ref q1, .ref q3, .ref q5, .ref q7, .ref q9, .ref q11]))] ++ [(q1, .inl (cA2, 9, .inl (fun _ => (0 : Int32))))] ++ [(q3, .inl (cA4, 9, .inl (fun _ => (0 : Int32))))] ++ [(q5, .inl (cA6, 4, .inl (fun _ => (0 : Int32))))] ++ [(q7, .inl (cA8, 4, .inl (fun _ => (0 : Int32))))] ++ [(q9, .inl (cA10, 4, .inl (fun _ => (0 : Int32))))] ++ [(q11, .inl (cA12, 4, .inl (fun _ => (0 : Int32))))]) H := hP
  replace hD : va_D A ([(a0, .inr (1, [.int 0, .int 0, .int 0, .ref q1, .ref q3, .ref q5, .ref q7, .ref q9, .ref q11]))] ++ [(q1, .inl (cA2, 9, .inl (fun _ => (0 : Int32))))] ++ [(q3, .inl (cA4, 9, .inl (fun _ => (0 : Int32))))] ++ [(q5, .inl (cA6, 4, .inl (fun _ => (0 : Int32))))] ++ [(q7, .inl (cA8, 4, .inl (fun _ => (0 : Int32))))] ++ [(q9, .inl (cA10, 4, .inl (fun _ => (0 : Int32))))] ++ [(q11, .inl (cA12, 4, .inl (fun _ => (0 : Int32))))]) := hD
  refine lv_aload_n hx hb dX1_init_48 rfl (lv_at hl 0 rfl) ?_
  refine va_get (ci := 1) (v := .ref q1) (C := RX1) (T := TX1) (N := 9) hx hb hts inlX1 hown hK hP 0 rfl rfl 3 (by decide) (hts _ mw_3_12) (fun _ h9 => h9) rfl dX1_init_49 ?_
  refine lv_iconst (v := (2 : Int32)) hx hb dX1_init_52 (by decide) ?_
  refine mgS_v (As := [.ref q1, .int (2 : Int32)]) (rest := []) (wc := [(q1, .inl (cA2, 9, .inl (fun _ => (0 : Int32))))]) (wr := [(a0, .inr (1, [.int 0, .int 0, .int 0, .ref q1, .ref q3, .ref q5, .ref q7, .ref q9, .ref q11]))] ++ [(q3, .inl (cA4, 9, .inl (fun _ => (0 : Int32))))] ++ [(q5, .inl (cA6, 4, .inl (fun _ => (0 : Int32))))] ++ [(q7, .inl (cA8, 4, .inl (fun _ => (0 : Int32))))] ++ [(q9, .inl (cA10, 4, .inl (fun _ => (0 : Int32))))] ++ [(q11, .inl (cA12, 4, .inl (fun _ => (0 : Int32))))]) (wf := [(a0, .inr (1, [.int 0, .int 0, .int 0, .ref q1, .ref q3, .ref q5, .ref q7, .ref q9, .ref q11]))] ++ [(q1, .inl (cA2, 9, .inl z13))] ++ [(q3, .inl (cA4, 9, .inl (fun _ => (0 : Int32))))] ++ [(q5, .inl (cA6, 4, .inl (fun _ => (0 : Int32))))] ++ [(q7, .inl (cA8, 4, .inl (fun _ => (0 : Int32))))] ++ [(q9, .inl (cA10, 4, .inl (fun _ => (0 : Int32))))] ++ [(q11, .inl (cA12, 4, .inl (fun _ => (0 : Int32))))]) S hK hP hD hS hA (cJ7_fill hf0) [0] [1] [0, 2, 3, 4, 5, 6] [0, 6, 1, 2, 3, 4, 5] rfl rfl rfl (by decide) (by decide) (by decide) rfl (by decide) (gdS mw_3_18 mw_3_19 mw_3_20 mw_3_21) rfl rfl hd_fJ7_fill ⟨Nat.le_of_ble_eq_true rfl, Nat.le_of_ble_eq_true rfl⟩ rfl hl.1 rfl (Nat.le_of_ble_eq_true rfl) dX1_init_53 ⟨Nat.le_of_ble_eq_true rfl, Nat.le_of_ble_eq_true rfl⟩ (fun H locs hP hD hS => ?_)
  refine lv_aload_n hx hb dX1_init_56 rfl (lv_at hl 0 rfl) ?_
  refine va_get (ci := 1) (v := .ref q3) (C := RX1) (T := TX1) (N := 9) hx hb hts inlX1 hown hK hP 0 rfl rfl 4 (by decide) (hts _ mw_3_13) (fun _ h9 => h9) rfl dX1_init_57 ?_
  refine lv_sipush (v := (200 : Int32)) hx hb dX1_init_60 (by decide) ?_
  refine mgS_v (As := [.ref q3, .int (200 : Int32)]) (rest := []) (wc := [(q3, .inl (cA4, 9, .inl (fun _ => (0 : Int32))))]) (wr := [(a0, .inr (1, [.int 0, .int 0, .int 0, .ref q1, .ref q3, .ref q5, .ref q7, .ref q9, .ref q11]))] ++ [(q1, .inl (cA2, 9, .inl z13))] ++ [(q5, .inl (cA6, 4, .inl (fun _ => (0 : Int32))))] ++ [(q7, .inl (cA8, 4, .inl (fun _ => (0 : Int32))))] ++ [(q9, .inl (cA10, 4, .inl (fun _ => (0 : Int32))))] ++ [(q11, .inl (cA12, 4, .inl (fun _ => (0 : Int32))))]) (wf := [(a0, .inr (1, [.int 0, .int 0, .int 0, .ref q1, .ref q3, .ref q5, .ref q7, .ref q9, .ref q11]))] ++ [(q1, .inl (cA2, 9, .inl z13))] ++ [(q3, .inl (cA4, 9, .inl z14))] ++ [(q5, .inl (cA6, 4, .inl (fun _ => (0 : Int32))))] ++ [(q7, .inl (cA8, 4, .inl (fun _ => (0 : Int32))))] ++ [(q9, .inl (cA10, 4, .inl (fun _ => (0 : Int32))))] ++ [(q11, .inl (cA12, 4, .inl (fun _ => (0 : Int32))))]) S hK hP hD hS hA (cJ7_fill hf1) [1] [2] [0, 1, 3, 4, 5, 6] [0, 1, 6, 2, 3, 4, 5] rfl rfl rfl (by decide) (by decide) (by decide) rfl (by decide) (gdS mw_3_18 mw_3_19 mw_3_20 mw_3_21) rfl rfl hd_fJ7_fill ⟨Nat.le_of_ble_eq_true rfl, Nat.le_of_ble_eq_true rfl⟩ rfl hl.1 rfl (Nat.le_of_ble_eq_true rfl) dX1_init_63 ⟨Nat.le_of_ble_eq_true rfl, Nat.le_of_ble_eq_true rfl⟩ (fun H locs hP hD hS => ?_)
  have hP9 := hP.sub (ws' := cLd (adOf a0 [q1, q3, q5, q7, q9, q11]) (cyOf [cA2, cA4, cA6, cA8, cA10, cA12]) (0 : Int32) (0 : Int32) (0 : Int32) z13 z14 (fun _ => (0 : Int32)) (fun _ => (0 : Int32)) (fun _ => (0 : Int32)) (fun _ => (0 : Int32))) [0, 1, 2, 3, 4, 5, 6] rfl
  have hD9 := hD.sub (ws' := cLd (adOf a0 [q1, q3, q5, q7, q9, q11]) (cyOf [cA2, cA4, cA6, cA8, cA10, cA12]) (0 : Int32) (0 : Int32) (0 : Int32) z13 z14 (fun _ => (0 : Int32)) (fun _ => (0 : Int32)) (fun _ => (0 : Int32)) (fun _ => (0 : Int32))) [0, 1, 2, 3, 4, 5, 6] (by decide) rfl
  have hK9 := hK.sub (tys' := [((cyOf [cA2, cA4, cA6, cA8, cA10, cA12]) 1, .int), ((cyOf [cA2, cA4, cA6, cA8, cA10, cA12]) 2, .int), ((cyOf [cA2, cA4, cA6, cA8, cA10, cA12]) 3, .int), ((cyOf [cA2, cA4, cA6, cA8, cA10, cA12]) 4, .int), ((cyOf [cA2, cA4, cA6, cA8, cA10, cA12]) 5, .int), ((cyOf [cA2, cA4, cA6, cA8, cA10, cA12]) 6, .int)]) [0, 1, 2, 3, 4, 5] rfl
  exact hret _ _ _ _ _ _ ⟨[q1, q3, q5, q7, q9, q11], (cyOf [cA2, cA4, cA6, cA8, cA10, cA12]), rfl, rfl⟩ hK9 hP9 hD9 hS dX1_init_66
abbrev rm_i9 : Room := { frames := 1, cells := 1, slots := 400, locals := 12 }
theorem hd_i9_init : yX9_init.cls ≠ "java/lang/invoke/MethodHandle" ∧ yX9_init.cls ≠ "java/lang/invoke/VarHandle" ∧ (parseMethodDescriptor yX9_init.desc).map (fun d => d.parameters.length) = some 0 := by decide +kernel
set_option maxHeartbeats 4000000 in
set_option maxRecDepth 100000 in
theorem i9 {l : Launch} {D : va_G} {a0  : Nat} : MetC l yX9_init cX9_init 1 rm_i9 D [] [(a0, .inr (9, [.null, .int 0, .int 0, .int 0, .int 0, .int 0, .int 0]))] [.ref a0] (fun _ => True) 1 400 (fun w t => ∃ (L : List Nat) (cy : Nat → ClassId), w = cTp (adOf a0 L) cy (fun _ => (0 : Int32)) (0 : Int32) (0 : Int32) (0 : Int32) (0 : Int32) (0 : Int32) (0 : Int32) ∧ t = [(cy 1, .int)]) := by
  refine metC_of (own := RX9) rfl (by decide) (Nat.le_of_ble_eq_true rfl) ?_
  intro p e s m args below meth c A Q ls S hK hA hP hD hS hl hEv hin hret
  obtain ⟨hx, hb, hml, hown, hts⟩ := id S
  replace hl : lv_has ls 1 [(0, .ref a0)] := hl
  generalize hH : s.heap = H at hP ⊢
  replace hS : va_S A s.heap H [] := by rw [← hH]; exact hS
  generalize hlo : ([] : List Loc) = locs at hS ⊢
  refine lv_aload_n hx hb dX9_init_0 rfl (lv_at hl 0 rfl) ?_
  refine W.objInit hx hb hown (hts _ mw_4_0) (hts _ mw_1_10) (hts _ mw_1_11) rfl (by rw [hml]; exact hl.1) rfl dX9_init_1 (Nat.le_of_ble_eq_true rfl) (Nat.le_of_ble_eq_true rfl) ?_
  refine W.eq (g2 := F0 m 4 ls []) rfl ?_
  refine lv_aload_n hx hb dX9_init_4 rfl (lv_at hl 0 rfl) ?_
  refine lv_sipush (v := (400 : Int32)) hx hb dX9_init_5 (by decide) ?_
  refine va_newa (atype := .int) (N' := 400) (a0 := (400, .inl (fun _ => (0 : Int32)))) hx hb (hts _ mw_3_11) rfl hK hP hD hS hA (vpc_i 400) (by decide) rfl (Nat.le_of_ble_eq_true rfl) (Nat.le_of_ble_eq_true rfl) (Nat.le_of_ble_eq_true rfl) dX9_init_8 (fun q1 cA2 H hK hP hD hS => ?_)
  replace hP : va_P D vwCl ([(a0, .inr (9, [.null, .int 0, .int 0, .int 0, .int 0, .int 0, .int 0]))] ++ [(q1, .inl (cA2, 400, .inl (fun _ => (0 : Int32))))]) H := hP
  replace hD : va_D A ([(a0, .inr (9, [.null, .int 0, .int 0, .int 0, .int 0, .int 0, .int 0]))] ++ [(q1, .inl (cA2, 400, .inl (fun _ => (0 : Int32))))]) := hD
  replace hK : va_K D vwCl [(cA2, .int)] s := hK
  refine W.widen (k := 1) (n := 400) (Nat.le_refl _) (Nat.le_refl _) ?_
  refine va_putF (ci := 9) (v := .ref q1) (ty := (.array .int)) (C := RX9) (T := TX9) (N := 7) hx hb hts inlX9 tyX9 tyX9_ok nmX9 hown hK hP hD hS 0 rfl rfl 0 (by decide) (hts _ mw_4_1) (fun _ h9 => h9) rfl hin rfl (by decide +kernel) rfl rfl (Nat.le_of_ble_eq_true rfl) dX9_init_10 (fun H locs hP hD hS => ?_)
  replace hP : va_P D vwCl ([(a0, .inr (9, [.ref q1, .int 0, .int 0, .int 0, .int 0, .int 0, .int 0]))] ++ [(q1, .inl (cA2, 400, .inl (fun _ => (0 : Int32))))]) H := hP
  replace hD : va_D A ([(a0, .inr (9, [.ref q1, .int 0, .int 0, .int 0, .int 0, .int 0, .int 0]))] ++ [(q1, .inl (cA2, 400, .inl (fun _ => (0 : Int32))))]) := hD
  have hP9 := hP.sub (ws' := cTp (adOf a0 [q1]) (cyOf [cA2]) (fun _ => (0 : Int32)) (0 : Int32) (0 : Int32) (0 : Int32) (0 : Int32) (0 : Int32) (0 : Int32)) [0, 1] rfl
  have hD9 := hD.sub (ws' := cTp (adOf a0 [q1]) (cyOf [cA2]) (fun _ => (0 : Int32)) (0 : Int32) (0 : Int32) (0 : Int32) (0 : Int32) (0 : Int32) (0 : Int32)) [0, 1] (by decide) rfl
  have hK9 := hK.sub (tys' := [((cyOf [cA2]) 1, .int)]) [0] rfl
  exact hret _ _ _ _ _ _ ⟨[q1], (cyOf [cA2]), rfl, rfl⟩ hK9 hP9 hD9 hS dX9_init_13
abbrev rm_i2 : Room := { frames := 1, cells := 0, slots := 0, locals := 12 }
theorem hd_i2_init : yX2_init.cls ≠ "java/lang/invoke/MethodHandle" ∧ yX2_init.cls ≠ "java/lang/invoke/VarHandle" ∧ (parseMethodDescriptor yX2_init.desc).map (fun d => d.parameters.length) = some 1 := by decide +kernel
set_option maxHeartbeats 4000000 in
set_option maxRecDepth 100000 in
theorem i2 {l : Launch} {D : va_G} {a0 b1 : Nat} : MetC l yX2_init cX2_init 2 rm_i2 D [] [(a0, .inr (2, [.null]))] [.ref a0, .ref b1] (fun _ => True) 0 0 (fun w t => ∃ (L : List Nat) (cy : Nat → ClassId), w = cLR (adOf a0 L) cy b1 ∧ t = []) := by
  refine metC_of (own := RX2) rfl (by decide) (Nat.le_of_ble_eq_true rfl) ?_
  intro p e s m args below meth c A Q ls S hK hA hP hD hS hl hEv hin hret
  obtain ⟨hx, hb, hml, hown, hts⟩ := id S
  replace hl : lv_has ls 2 [(0, .ref a0), (1, .ref b1)] := hl
  generalize hH : s.heap = H at hP ⊢
  replace hS : va_S A s.heap H [] := by rw [← hH]; exact hS
  generalize hlo : ([] : List Loc) = locs at hS ⊢
  refine lv_aload_n hx hb dX2_init_0 rfl (lv_at hl 0 rfl) ?_
  refine W.objInit hx hb hown (hts _ mw_4_5) (hts _ mw_1_10) (hts _ mw_1_11) rfl (by rw [hml]; exact hl.1) rfl dX2_init_1 (Nat.le_of_ble_eq_true rfl) (Nat.le_of_ble_eq_true rfl) ?_
  refine W.eq (g2 := F0 m 4 ls []) rfl ?_
  refine lv_aload_n hx hb dX2_init_4 rfl (lv_at hl 0 rfl) ?_
  refine lv_aload_n hx hb dX2_init_5 rfl (lv_at hl 1 rfl) ?_
  refine va_putF (ci := 2) (v := .ref b1) (ty := (.object "LadderLand$Tape")) (C := RX2) (T := TX2) (N := 1) hx hb hts inlX2 tyX2 tyX2_ok nmX2 hown hK hP hD hS 0 rfl rfl 0 (by decide) (hts _ mw_4_6) (fun _ h9 => h9) rfl hin rfl (by decide +kernel) rfl rfl (Nat.le_of_ble_eq_true rfl) dX2_init_6 (fun H locs hP hD hS => ?_)
  replace hP : va_P D vwCl ([(a0, .inr (2, [.ref b1]))]) H := hP
  replace hD : va_D A ([(a0, .inr (2, [.ref b1]))]) := hD
  have hP9 := hP.sub (ws' := cLR (adOf a0 []) (cyOf []) b1) [0] rfl
  have hD9 := hD.sub (ws' := cLR (adOf a0 []) (cyOf []) b1) [0] (by decide) rfl
  have hK9 := hK.sub (tys' := []) [] rfl
  exact hret _ _ _ _ _ _ ⟨[], (cyOf []), rfl, rfl⟩ hK9 hP9 hD9 hS dX2_init_9
abbrev rm_i6 : Room := { frames := 1, cells := 3, slots := 424, locals := 12 }
theorem hd_i6_init : yX6_init.cls ≠ "java/lang/invoke/MethodHandle" ∧ yX6_init.cls ≠ "java/lang/invoke/VarHandle" ∧ (parseMethodDescriptor yX6_init.desc).map (fun d => d.parameters.length) = some 1 := by decide +kernel
set_option maxHeartbeats 4000000 in
set_option maxRecDepth 100000 in
theorem i6 {l : Launch} {D : va_G} {a0 b1 : Nat} : MetC l yX6_init cX6_init 2 rm_i6 D [] [(a0, .inr (6, [.null, .null, .null, .null, .int 0, .int 0, .int 0]))] [.ref a0, .ref b1] (fun _ => True) 3 424 (fun w t => ∃ (L : List Nat) (cy : Nat → ClassId), w = cRR (adOf a0 L) cy b1 (fun _ => (0 : Int32)) (fun _ => (0 : Int32)) (fun _ => (0 : Int32)) (0 : Int32) (0 : Int32) (0 : Int32) ∧ t = [(cy 1, .int), (cy 2, .int), (cy 3, .int)]) := by
  refine metC_of (own := RX6) rfl (by decide) (Nat.le_of_ble_eq_true rfl) ?_
  intro p e s m args below meth c A Q ls S hK hA hP hD hS hl hEv hin hret
  obtain ⟨hx, hb, hml, hown, hts⟩ := id S
  replace hl : lv_has ls 2 [(0, .ref a0), (1, .ref b1)] := hl
  generalize hH : s.heap = H at hP ⊢
  replace hS : va_S A s.heap H [] := by rw [← hH]; exact hS
  generalize hlo : ([] : List Loc) = locs at hS ⊢
  refine lv_aload_n hx hb dX6_init_0 rfl (lv_at hl 0 rfl) ?_
  refine W.objInit hx hb hown (hts _ mw_4_10) (hts _ mw_1_10) (hts _ mw_1_11) rfl (by rw [hml]; exact hl.1) rfl dX6_init_1 (Nat.le_of_ble_eq_true rfl) (Nat.le_of_ble_eq_true rfl) ?_
  refine W.eq (g2 := F0 m 4 ls []) rfl ?_
  refine lv_aload_n hx hb dX6_init_4 rfl (lv_at hl 0 rfl) ?_
  refine lv_sipush (v := (400 : Int32)) hx hb dX6_init_5 (by decide) ?_
  refine va_newa (atype := .int) (N' := 400) (a0 := (400, .inl (fun _ => (0 : Int32)))) hx hb (hts _ mw_3_11) rfl hK hP hD hS hA (vpc_i 400) (by decide) rfl (Nat.le_of_ble_eq_true rfl) (Nat.le_of_ble_eq_true rfl) (Nat.le_of_ble_eq_true rfl) dX6_init_8 (fun q1 cA2 H hK hP hD hS => ?_)
  replace hP : va_P D vwCl ([(a0, .inr (6, [.null, .null, .null, .null, .int 0, .int 0, .int 0]))] ++ [(q1, .inl (cA2, 400, .inl (fun _ => (0 : Int32))))]) H := hP
  replace hD : va_D A ([(a0, .inr (6, [.null, .null, .null, .null, .int 0, .int 0, .int 0]))] ++ [(q1, .inl (cA2, 400, .inl (fun _ => (0 : Int32))))]) := hD
  replace hK : va_K D vwCl [(cA2, .int)] s := hK
  refine W.widen (k := 1) (n := 400) (Nat.le_refl _) (Nat.le_refl _) ?_
  refine va_putF (ci := 6) (v := .ref q1) (ty := (.array .int)) (C := RX6) (T := TX6) (N := 7) hx hb hts inlX6 tyX6 tyX6_ok nmX6 hown hK hP hD hS 0 rfl rfl 1 (by decide) (hts _ mw_4_11) (fun _ h9 => h9) rfl hin rfl (by decide +kernel) rfl rfl (Nat.le_of_ble_eq_true rfl) dX6_init_10 (fun H locs hP hD hS => ?_)
  replace hP : va_P D vwCl ([(a0, .inr (6, [.null, .ref q1, .null, .null, .int 0, .int 0, .int 0]))] ++ [(q1, .inl (cA2, 400, .inl (fun _ => (0 : Int32))))]) H := hP
  replace hD : va_D A ([(a0, .inr (6, [.null, .ref q1, .null, .null, .int 0, .int 0, .int 0]))] ++ [(q1, .inl (cA2, 400, .inl (fun _ => (0 : Int32))))]) := hD
  refine lv_aload_n hx hb dX6_init_13 rfl (lv_at hl 0 rfl) ?_
  refine lv_bipush (v := (12 : Int32)) hx hb dX6_init_14 (by decide) ?_
  refine va_newa (atype := .int) (N' := 12) (a0 := (12, .inl (fun _ => (0 : Int32)))) hx hb (hts _ mw_3_11) rfl hK hP hD hS hA (vpc_i 12) (by decide) rfl (Nat.le_of_ble_eq_true rfl) (Nat.le_of_ble_eq_true rfl) (Nat.le_of_ble_eq_true rfl) dX6_init_16 (fun q3 cA4 H hK hP hD hS => ?_)
  replace hP : va_P D vwCl ([(a0, .inr (6, [.null, .ref q1, .null, .null, .int 0, .int 0, .int 0]))] ++ [(q1, .inl (cA2, 400, .inl (fun _ => (0 : Int32))))] ++ [(q3, .inl (cA4, 12, .inl (fun _ => (0 : Int32))))]) H := hP
  replace hD : va_D A ([(a0, .inr (6, [.null, .ref q1, .null, .null, .int 0, .int 0, .int 0]))] ++ [(q1, .inl (cA2, 400, .inl (fun _ => (0 : Int32))))] ++ [(q3, .inl (cA4, 12, .inl (fun _ => (0 : Int32))))]) := hD
  replace hK : va_K D vwCl [(cA2, .int), (cA4, .int)] s := hK
  refine W.widen (k := 2) (n := 412) (Nat.le_refl _) (Nat.le_refl _) ?_
  refine va_putF (ci := 6) (v := .ref q3) (ty := (.array .int)) (C := RX6) (T := TX6) (N := 7) hx hb hts inlX6 tyX6 tyX6_ok nmX6 hown hK hP hD hS 0 rfl rfl 2 (by decide) (hts _ mw_4_12) (fun _ h9 => h9) rfl hin rfl (by decide +kernel) rfl rfl (Nat.le_of_ble_eq_true rfl) dX6_init_18 (fun H locs hP hD hS => ?_)
  replace hP : va_P D vwCl ([(a0, .inr (6, [.null, .ref q1, .ref q3, .null, .int 0, .int 0, .int 0]))] ++ [(q1, .inl (cA2, 400, .inl (fun _ => (0 : Int32))))] ++ [(q3, .inl (cA4, 12, .inl (fun _ => (0 : Int32))))]) H := hP
  replace hD : va_D A ([(a0, .inr (6, [.null, .ref q1, .ref q3, .null, .int 0, .int 0, .int 0]))] ++ [(q1, .inl (cA2, 400, .inl (fun _ => (0 : Int32))))] ++ [(q3, .inl (cA4, 12, .inl (fun _ => (0 : Int32))))]) := hD
  refine lv_aload_n hx hb dX6_init_21 rfl (lv_at hl 0 rfl) ?_
  refine lv_bipush (v := (12 : Int32)) hx hb dX6_init_22 (by decide) ?_
  refine va_newa (atype := .int) (N' := 12) (a0 := (12, .inl (fun _ => (0 : Int32)))) hx hb (hts _ mw_3_11) rfl hK hP hD hS hA (vpc_i 12) (by decide) rfl (Nat.le_of_ble_eq_true rfl) (Nat.le_of_ble_eq_true rfl) (Nat.le_of_ble_eq_true rfl) dX6_init_24 (fun q5 cA6 H hK hP hD hS => ?_)
  replace hP : va_P D vwCl ([(a0, .inr (6, [.null, .ref q1, .ref q3, .null, .int 0, .int 0, .int 0]))] ++ [(q1, .inl (cA2, 400, .inl (fun _ => (0 : Int32))))] ++ [(q3, .inl (cA4, 12, .inl (fun _ => (0 : Int32))))] ++ [(q5, .inl (cA6, 12, .inl (fun _ => (0 : Int32))))]) H := hP
  replace hD : va_D A ([(a0, .inr (6, [.null, .ref q1, .ref q3, .null, .int 0, .int 0, .int 0]))] ++ [(q1, .inl (cA2, 400, .inl (fun _ => (0 : Int32))))] ++ [(q3, .inl (cA4, 12, .inl (fun _ => (0 : Int32))))] ++ [(q5, .inl (cA6, 12, .inl (fun _ => (0 : Int32))))]) := hD
  replace hK : va_K D vwCl [(cA2, .int), (cA4, .int), (cA6, .int)] s := hK
  refine W.widen (k := 3) (n := 424) (Nat.le_refl _) (Nat.le_refl _) ?_
  refine va_putF (ci := 6) (v := .ref q5) (ty := (.array .int)) (C := RX6) (T := TX6) (N := 7) hx hb hts inlX6 tyX6 tyX6_ok nmX6 hown hK hP hD hS 0 rfl rfl 3 (by decide) (hts _ mw_4_13) (fun _ h9 => h9) rfl hin rfl (by decide +kernel) rfl rfl (Nat.le_of_ble_eq_true rfl) dX6_init_26 (fun H locs hP hD hS => ?_)
  replace hP : va_P D vwCl ([(a0, .inr (6, [.null, .ref q1, .ref q3, .ref q5, .int 0, .int 0, .int 0]))] ++ [(q1, .inl (cA2, 400, .inl (fun _ => (0 : Int32))))] ++ [(q3, .inl (cA4, 12, .inl (fun _ => (0 : Int32))))] ++ [(q5, .inl (cA6, 12, .inl (fun _ => (0 : Int32))))]) H := hP
  replace hD : va_D A ([(a0, .inr (6, [.null, .ref q1, .ref q3, .ref q5, .int 0, .int 0, .int 0]))] ++ [(q1, .inl (cA2, 400, .inl (fun _ => (0 : Int32))))] ++ [(q3, .inl (cA4, 12, .inl (fun _ => (0 : Int32))))] ++ [(q5, .inl (cA6, 12, .inl (fun _ => (0 : Int32))))]) := hD
  refine lv_aload_n hx hb dX6_init_29 rfl (lv_at hl 0 rfl) ?_
  refine lv_aload_n hx hb dX6_init_30 rfl (lv_at hl 1 rfl) ?_
  refine va_putF (ci := 6) (v := .ref b1) (ty := (.object "LadderLand$Tape")) (C := RX6) (T := TX6) (N := 7) hx hb hts inlX6 tyX6 tyX6_ok nmX6 hown hK hP hD hS 0 rfl rfl 0 (by decide) (hts _ mw_4_14) (fun _ h9 => h9) rfl hin rfl (by decide +kernel) rfl rfl (Nat.le_of_ble_eq_true rfl) dX6_init_31 (fun H locs hP hD hS => ?_)
  replace hP : va_P D vwCl ([(a0, .inr (6, [.ref b1, .ref q1, .ref q3, .ref q5, .int 0, .int 0, .int 0]))] ++ [(q1, .inl (cA2, 400, .inl (fun _ => (0 : Int32))))] ++ [(q3, .inl (cA4, 12, .inl (fun _ => (0 : Int32))))] ++ [(q5, .inl (cA6, 12, .inl (fun _ => (0 : Int32))))]) H := hP
  replace hD : va_D A ([(a0, .inr (6, [.ref b1, .ref q1, .ref q3, .ref q5, .int 0, .int 0, .int 0]))] ++ [(q1, .inl (cA2, 400, .inl (fun _ => (0 : Int32))))] ++ [(q3, .inl (cA4, 12, .inl (fun _ => (0 : Int32))))] ++ [(q5, .inl (cA6, 12, .inl (fun _ => (0 : Int32))))]) := hD
  have hP9 := hP.sub (ws' := cRR (adOf a0 [q1, q3, q5]) (cyOf [cA2, cA4, cA6]) b1 (fun _ => (0 : Int32)) (fun _ => (0 : Int32)) (fun _ => (0 : Int32)) (0 : Int32) (0 : Int32) (0 : Int32)) [0, 1, 2, 3] rfl
  have hD9 := hD.sub (ws' := cRR (adOf a0 [q1, q3, q5]) (cyOf [cA2, cA4, cA6]) b1 (fun _ => (0 : Int32)) (fun _ => (0 : Int32)) (fun _ => (0 : Int32)) (0 : Int32) (0 : Int32) (0 : Int32)) [0, 1, 2, 3] (by decide) rfl
  have hK9 := hK.sub (tys' := [((cyOf [cA2, cA4, cA6]) 1, .int), ((cyOf [cA2, cA4, cA6]) 2, .int), ((cyOf [cA2, cA4, cA6]) 3, .int)]) [0, 1, 2] rfl
  exact hret _ _ _ _ _ _ ⟨[q1, q3, q5], (cyOf [cA2, cA4, cA6]), rfl, rfl⟩ hK9 hP9 hD9 hS dX6_init_34
abbrev rm_i10 : Room := { frames := 1, cells := 5, slots := 25, locals := 12 }
theorem hd_i10_init : yX10_init.cls ≠ "java/lang/invoke/MethodHandle" ∧ yX10_init.cls ≠ "java/lang/invoke/VarHandle" ∧ (parseMethodDescriptor yX10_init.desc).map (fun d => d.parameters.length) = some 1 := by decide +kernel
set_option maxHeartbeats 4000000 in
set_option maxRecDepth 100000 in
theorem i10 {l : Launch} {D : va_G} {a0 b1 : Nat} : MetC l yX10_init cX10_init 2 rm_i10 D [] [(a0, .inr (10, [.null, .int 0, .int 0, .null, .null, .null, .null, .null]))] [.ref a0, .ref b1] (fun _ => True) 5 25 (fun w t => ∃ (L : List Nat) (cy : Nat → ClassId), w = cW (adOf a0 L) cy b1 (0 : Int32) (0 : Int32) (fun _ => (0 : Int32)) (fun _ => (0 : Int32)) (fun _ => (0 : Int32)) (fun _ => (0 : Int32)) (fun _ => (0 : Int32)) ∧ t = [(cy 1, .int), (cy 2, .int), (cy 3, .int), (cy 4, .int), (cy 5, .int)]) := by
  refine metC_of (own := RX10) rfl (by decide) (Nat.le_of_ble_eq_true rfl) ?_
  intro p e s m args below meth c A Q ls S hK hA hP hD hS hl hEv hin hret
  obtain ⟨hx, hb, hml, hown, hts⟩ := id S
  replace hl : lv_has ls 2 [(0, .ref a0), (1, .ref b1)] := hl
  generalize hH : s.heap = H at hP ⊢
  replace hS : va_S A s.heap H [] := by rw [← hH]; exact hS
  generalize hlo : ([] : List Loc) = locs at hS ⊢
  refine lv_aload_n hx hb dX10_init_0 rfl (lv_at hl 0 rfl) ?_
  refine W.objInit hx hb hown (hts _ mw_5_4) (hts _ mw_1_10) (hts _ mw_1_11) rfl (by rw [hml]; exact hl.1) rfl dX10_init_1 (Nat.le_of_ble_eq_true rfl) (Nat.le_of_ble_eq_true rfl) ?_
  refine W.eq (g2 := F0 m 4 ls []) rfl ?_
  refine lv_aload_n hx hb dX10_init_4 rfl (lv_at hl 0 rfl) ?_
  refine lv_iconst (v := (4 : Int32)) hx hb dX10_init_5 (by decide) ?_
  refine va_newa (atype := .int) (N' := 4) (a0 := (4, .inl (fun _ => (0 : Int32)))) hx hb (hts _ mw_3_11) rfl hK hP hD hS hA (vpc_i 4) (by decide) rfl (Nat.le_of_ble_eq_true rfl) (Nat.le_of_ble_eq_true rfl) (Nat.le_of_ble_eq_true rfl) dX10_init_6 (fun q1 cA2 H hK hP hD hS => ?_)
  replace hP : va_P D vwCl ([(a0, .inr (10, [.null, .int 0, .int 0, .null, .null, .null, .null, .null]))] ++ [(q1, .inl (cA2, 4, .inl (fun _ => (0 : Int32))))]) H := hP
  replace hD : va_D A ([(a0, .inr (10, [.null, .int 0, .int 0, .null, .null, .null, .null, .null]))] ++ [(q1, .inl (cA2, 4, .inl (fun _ => (0 : Int32))))]) := hD
  replace hK : va_K D vwCl [(cA2, .int)] s := hK
  refine W.widen (k := 1) (n := 4) (Nat.le_refl _) (Nat.le_refl _) ?_
  refine va_putF (ci := 10) (v := .ref q1) (ty := (.array .int)) (C := RX10) (T := TX10) (N := 8) hx hb hts inlX10 tyX10 tyX10_ok nmX10 hown hK hP hD hS 0 rfl rfl 3 (by decide) (hts _ mw_5_5) (fun _ h9 => h9) rfl hin rfl (by decide +kernel) rfl rfl (Nat.le_of_ble_eq_true rfl) dX10_init_8 (fun H locs hP hD hS => ?_)
  replace hP : va_P D vwCl ([(a0, .inr (10, [.null, .int 0, .int 0, .ref q1, .null, .null, .null, .null]))] ++ [(q1, .inl (cA2, 4, .inl (fun _ => (0 : Int32))))]) H := hP
  replace hD : va_D A ([(a0, .inr (10, [.null, .int 0, .int 0, .ref q1, .null, .null, .null, .null]))] ++ [(q1, .inl (cA2, 4, .inl (fun _ => (0 : Int32))))]) := hD
  refine lv_aload_n hx hb dX10_init_11 rfl (lv_at hl 0 rfl) ?_
  refine lv_iconst (v := (4 : Int32)) hx hb dX10_init_12 (by decide) ?_
  refine va_newa (atype := .int) (N' := 4) (a0 := (4, .inl (fun _ => (0 : Int32)))) hx hb (hts _ mw_3_11) rfl hK hP hD hS hA (vpc_i 4) (by decide) rfl (Nat.le_of_ble_eq_true rfl) (Nat.le_of_ble_eq_true rfl) (Nat.le_of_ble_eq_true rfl) dX10_init_13 (fun q3 cA4 H hK hP hD hS => ?_)
  replace hP : va_P D vwCl ([(a0, .inr (10, [.null, .int 0, .int 0, .ref q1, .null, .null, .null, .null]))] ++ [(q1, .inl (cA2, 4, .inl (fun _ => (0 : Int32))))] ++ [(q3, .inl (cA4, 4, .inl (fun _ => (0 : Int32))))]) H := hP
  replace hD : va_D A ([(a0, .inr (10, [.null, .int 0, .int 0, .ref q1, .null, .null, .null, .null]))] ++ [(q1, .inl (cA2, 4, .inl (fun _ => (0 : Int32))))] ++ [(q3, .inl (cA4, 4, .inl (fun _ => (0 : Int32))))]) := hD
  replace hK : va_K D vwCl [(cA2, .int), (cA4, .int)] s := hK
  refine W.widen (k := 2) (n := 8) (Nat.le_refl _) (Nat.le_refl _) ?_
  refine va_putF (ci := 10) (v := .ref q3) (ty := (.array .int)) (C := RX10) (T := TX10) (N := 8) hx hb hts inlX10 tyX10 tyX10_ok nmX10 hown hK hP hD hS 0 rfl rfl 4 (by decide) (hts _ mw_5_6) (fun _ h9 => h9) rfl hin rfl (by decide +kernel) rfl rfl (Nat.le_of_ble_eq_true rfl) dX10_init_15 (fun H locs hP hD hS => ?_)
  replace hP : va_P D vwCl ([(a0, .inr (10, [.null, .int 0, .int 0, .ref q1, .ref q3, .null, .null, .null]))] ++ [(q1, .inl (cA2, 4, .inl (fun _ => (0 : Int32))))] ++ [(q3, .inl (cA4, 4, .inl (fun _ => (0 : Int32))))]) H := hP
  replace hD : va_D A ([(a0, .inr (10, [.null, .int 0, .int 0, .ref q1, .ref q3, .null, .null, .null]))] ++ [(q1, .inl (cA2, 4, .inl (fun _ => (0 : Int32))))] ++ [(q3, .inl (cA4, 4, .inl (fun _ => (0 : Int32))))]) := hD
  refine lv_aload_n hx hb dX10_init_18 rfl (lv_at hl 0 rfl) ?_
  refine lv_iconst (v := (4 : Int32)) hx hb dX10_init_19 (by decide) ?_
  refine va_newa (atype := .int) (N' := 4) (a0 := (4, .inl (fun _ => (0 : Int32)))) hx hb (hts _ mw_3_11) rfl hK hP hD hS hA (vpc_i 4) (by decide) rfl (Nat.le_of_ble_eq_true rfl) (Nat.le_of_ble_eq_true rfl) (Nat.le_of_ble_eq_true rfl) dX10_init_20 (fun q5 cA6 H hK hP hD hS => ?_)
  replace hP : va_P D vwCl ([(a0, .inr (10, [.null, .int 0, .int 0, .ref q1, .ref q3, .null, .null, .null]))] ++ [(q1, .inl (cA2, 4, .inl (fun _ => (0 : Int32))))] ++ [(q3, .inl (cA4, 4, .inl (fun _ => (0 : Int32))))] ++ [(q5, .inl (cA6, 4, .inl (fun _ => (0 : Int32))))]) H := hP
  replace hD : va_D A ([(a0, .inr (10, [.null, .int 0, .int 0, .ref q1, .ref q3, .null, .null, .null]))] ++ [(q1, .inl (cA2, 4, .inl (fun _ => (0 : Int32))))] ++ [(q3, .inl (cA4, 4, .inl (fun _ => (0 : Int32))))] ++ [(q5, .inl (cA6, 4, .inl (fun _ => (0 : Int32))))]) := hD
  replace hK : va_K D vwCl [(cA2, .int), (cA4, .int), (cA6, .int)] s := hK
  refine W.widen (k := 3) (n := 12) (Nat.le_refl _) (Nat.le_refl _) ?_
  refine va_putF (ci := 10) (v := .ref q5) (ty := (.array .int)) (C := RX10) (T := TX10) (N := 8) hx hb hts inlX10 tyX10 tyX10_ok nmX10 hown hK hP hD hS 0 rfl rfl 5 (by decide) (hts _ mw_5_7) (fun _ h9 => h9) rfl hin rfl (by decide +kernel) rfl rfl (Nat.le_of_ble_eq_true rfl) dX10_init_22 (fun H locs hP hD hS => ?_)
  replace hP : va_P D vwCl ([(a0, .inr (10, [.null, .int 0, .int 0, .ref q1, .ref q3, .ref q5, .null, .null]))] ++ [(q1, .inl (cA2, 4, .inl (fun _ => (0 : Int32))))] ++ [(q3, .inl (cA4, 4, .inl (fun _ => (0 : Int32))))] ++ [(q5, .inl (cA6, 4, .inl (fun _ => (0 : Int32))))]) H := hP
  replace hD : va_D A ([(a0, .inr (10, [.null, .int 0, .int 0, .ref q1, .ref q3, .ref q5, .null, .null]))] ++ [(q1, .inl (cA2, 4, .inl (fun _ => (0 : Int32))))] ++ [(q3, .inl (cA4, 4, .inl (fun _ => (0 : Int32))))] ++ [(q5, .inl (cA6, 4, .inl (fun _ => (0 : Int32))))]) := hD
  refine lv_aload_n hx hb dX10_init_25 rfl (lv_at hl 0 rfl) ?_
  refine lv_iconst (v := (4 : Int32)) hx hb dX10_init_26 (by decide) ?_
  refine va_newa (atype := .int) (N' := 4) (a0 := (4, .inl (fun _ => (0 : Int32)))) hx hb (hts _ mw_3_11) rfl hK hP hD hS hA (vpc_i 4) (by decide) rfl (Nat.le_of_ble_eq_true rfl) (Nat.le_of_ble_eq_true rfl) (Nat.le_of_ble_eq_true rfl) dX10_init_27 (fun q7 cA8 H hK hP hD hS => ?_)
  replace hP : va_P D vwCl ([(a0, .inr (10, [.null, .int 0, .int 0, .ref q1, .ref q3, .ref q5, .null, .null]))] ++ [(q1, .inl (cA2, 4, .inl (fun _ => (0 : Int32))))] ++ [(q3, .inl (cA4, 4, .inl (fun _ => (0 : Int32))))] ++ [(q5, .inl (cA6, 4, .inl (fun _ => (0 : Int32))))] ++ [(q7, .inl (cA8, 4, .inl (fun _ => (0 : Int32))))]) H := hP
  replace hD : va_D A ([(a0, .inr (10, [.null, .int 0, .int 0, .ref q1, .ref q3, .ref q5, .null, .null]))] ++ [(q1, .inl (cA2, 4, .inl (fun _ => (0 : Int32))))] ++ [(q3, .inl (cA4, 4, .inl (fun _ => (0 : Int32))))] ++ [(q5, .inl (cA6, 4, .inl (fun _ => (0 : Int32))))] ++ [(q7, .inl (cA8, 4, .inl (fun _ => (0 : Int32))))]) := hD
  replace hK : va_K D vwCl [(cA2, .int), (cA4, .int), (cA6, .int), (cA8, .int)] s := hK
  refine W.widen (k := 4) (n := 16) (Nat.le_refl _) (Nat.le_refl _) ?_
  refine va_putF (ci := 10) (v := .ref q7) (ty := (.array .int)) (C := RX10) (T := TX10) (N := 8) hx hb hts inlX10 tyX10 tyX10_ok nmX10 hown hK hP hD hS 0 rfl rfl 6 (by decide) (hts _ mw_5_8) (fun _ h9 => h9) rfl hin rfl (by decide +kernel) rfl rfl (Nat.le_of_ble_eq_true rfl) dX10_init_29 (fun H locs hP hD hS => ?_)
  replace hP : va_P D vwCl ([(a0, .inr (10, [.null, .int 0, .int 0, .ref q1, .ref q3, .ref q5, .ref q7, .null]))] ++ [(q1, .inl (cA2, 4, .inl (fun _ => (0 : Int32))))] ++ [(q3, .inl (cA4, 4, .inl (fun _ => (0 : Int32))))] ++ [(q5, .inl (cA6, 4, .inl (fun _ => (0 : Int32))))] ++ [(q7, .inl (cA8, 4, .inl (fun _ => (0 : Int32))))]) H := hP
  replace hD : va_D A ([(a0, .inr (10, [.null, .int 0, .int 0, .ref q1, .ref q3, .ref q5, .ref q7, .null]))] ++ [(q1, .inl (cA2, 4, .inl (fun _ => (0 : Int32))))] ++ [(q3, .inl (cA4, 4, .inl (fun _ => (0 : Int32))))] ++ [(q5, .inl (cA6, 4, .inl (fun _ => (0 : Int32))))] ++ [(q7, .inl (cA8, 4, .inl (fun _ => (0 : Int32))))]) := hD
  refine lv_aload_n hx hb dX10_init_32 rfl (lv_at hl 0 rfl) ?_
  refine lv_bipush (v := (9 : Int32)) hx hb dX10_init_33 (by decide) ?_
  refine va_newa (atype := .int) (N' := 9) (a0 := (9, .inl (fun _ => (0 : Int32)))) hx hb (hts _ mw_3_11) rfl hK hP hD hS hA (vpc_i 9) (by decide) rfl (Nat.le_of_ble_eq_true rfl) (Nat.le_of_ble_eq_true rfl) (Nat.le_of_ble_eq_true rfl) dX10_init_35 (fun q9 cA10 H hK hP hD hS => ?_)
  replace hP : va_P D vwCl ([(a0, .inr (10, [.null, .int 0, .int 0, .ref q1, .ref q3, .ref q5, .ref q7, .null]))] ++ [(q1, .inl (cA2, 4, .inl (fun _ => (0 : Int32))))] ++ [(q3, .inl (cA4, 4, .inl (fun _ => (0 : Int32))))] ++ [(q5, .inl (cA6, 4, .inl (fun _ => (0 : Int32))))] ++ [(q7, .inl (cA8, 4, .inl (fun _ => (0 : Int32))))] ++ [(q9, .inl (cA10, 9, .inl (fun _ => (0 : Int32))))]) H := hP
  replace hD : va_D A ([(a0, .inr (10, [.null, .int 0, .int 0, .ref q1, .ref q3, .ref q5, .ref q7, .null]))] ++ [(q1, .inl (cA2, 4, .inl (fun _ => (0 : Int32))))] ++ [(q3, .inl (cA4, 4, .inl (fun _ => (0 : Int32))))] ++ [(q5, .inl (cA6, 4, .inl (fun _ => (0 : Int32))))] ++ [(q7, .inl (cA8, 4, .inl (fun _ => (0 : Int32))))] ++ [(q9, .inl (cA10, 9, .inl (fun _ => (0 : Int32))))]) := hD
  replace hK : va_K D vwCl [(cA2, .int), (cA4, .int), (cA6, .int), (cA8, .int), (cA10, .int)] s := hK
  refine W.widen (k := 5) (n := 25) (Nat.le_refl _) (Nat.le_refl _) ?_
  refine va_putF (ci := 10) (v := .ref q9) (ty := (.array .int)) (C := RX10) (T := TX10) (N := 8) hx hb hts inlX10 tyX10 tyX10_ok nmX10 hown hK hP hD hS 0 rfl rfl 7 (by decide) (hts _ mw_5_9) (fun _ h9 => h9) rfl hin rfl (by decide +kernel) rfl rfl (Nat.le_of_ble_eq_true rfl) dX10_init_37 (fun H locs hP hD hS => ?_)
  replace hP : va_P D vwCl ([(a0, .inr (10, [.null, .int 0, .int 0, .ref q1, .ref q3, .ref q5, .ref q7, .ref q9]))] ++ [(q1, .inl (cA2, 4, .inl (fun _ => (0 : Int32))))] ++ [(q3, .inl (cA4, 4, .inl (fun _ => (0 : Int32))))] ++ [(q5, .inl (cA6, 4, .inl (fun _ => (0 : Int32))))] ++ [(q7, .inl (cA8, 4, .inl (fun _ => (0 : Int32))))] ++ [(q9, .inl (cA10, 9, .inl (fun _ => (0 : Int32))))]) H := hP
  replace hD : va_D A ([(a0, .inr (10, [.null, .int 0, .int 0, .ref q1, .ref q3, .ref q5, .ref q7, .ref q9]))] ++ [(q1, .inl (cA2, 4, .inl (fun _ => (0 : Int32))))] ++ [(q3, .inl (cA4, 4, .inl (fun _ => (0 : Int32))))] ++ [(q5, .inl (cA6, 4, .inl (fun _ => (0 : Int32))))] ++ [(q7, .inl (cA8, 4, .inl (fun _ => (0 : Int32))))] ++ [(q9, .inl (cA10, 9, .inl (fun _ => (0 : Int32))))]) := hD
  refine lv_aload_n hx hb dX10_init_40 rfl (lv_at hl 0 rfl) ?_
  refine lv_aload_n hx hb dX10_init_41 rfl (lv_at hl 1 rfl) ?_
  refine va_put (ci := 10) (v := .ref b1) (ty := (.object "LadderLand$Ladder")) (C := RX10) (T := TX10) (N := 8) hx hb hts inlX10 tyX10 tyX10_ok nmX10 hown hK hP hD hS 0 rfl rfl 0 (by decide) (hts _ mw_5_10) (fun _ h9 => h9) rfl (by decide +kernel) rfl rfl (Nat.le_of_ble_eq_true rfl) dX10_init_42 (fun H locs hP hD hS => ?_)
  replace hP : va_P D vwCl ([(a0, .inr (10, [.ref b1, .int 0, .int 0, .ref q1, .ref q3, .ref q5, .ref q7, .ref q9]))] ++ [(q1, .inl (cA2, 4, .inl (fun _ => (0 : Int32))))] ++ [(q3, .inl (cA4, 4, .inl (fun _ => (0 : Int32))))] ++ [(q5, .inl (cA6, 4, .inl (fun _ => (0 : Int32))))] ++ [(q7, .inl (cA8, 4, .inl (fun _ => (0 : Int32))))] ++ [(q9, .inl (cA10, 9, .inl (fun _ => (0 : Int32))))]) H := hP
  replace hD : va_D A ([(a0, .inr (10, [.ref b1, .int 0, .int 0, .ref q1, .ref q3, .ref q5, .ref q7, .ref q9]))] ++ [(q1, .inl (cA2, 4, .inl (fun _ => (0 : Int32))))] ++ [(q3, .inl (cA4, 4, .inl (fun _ => (0 : Int32))))] ++ [(q5, .inl (cA6, 4, .inl (fun _ => (0 : Int32))))] ++ [(q7, .inl (cA8, 4, .inl (fun _ => (0 : Int32))))] ++ [(q9, .inl (cA10, 9, .inl (fun _ => (0 : Int32))))]) := hD
  have hP9 := hP.sub (ws' := cW (adOf a0 [q1, q3, q5, q7, q9]) (cyOf [cA2, cA4, cA6, cA8, cA10]) b1 (0 : Int32) (0 : Int32) (fun _ => (0 : Int32)) (fun _ => (0 : Int32)) (fun _ => (0 : Int32)) (fun _ => (0 : Int32)) (fun _ => (0 : Int32))) [0, 1, 2, 3, 4, 5] rfl
  have hD9 := hD.sub (ws' := cW (adOf a0 [q1, q3, q5, q7, q9]) (cyOf [cA2, cA4, cA6, cA8, cA10]) b1 (0 : Int32) (0 : Int32) (fun _ => (0 : Int32)) (fun _ => (0 : Int32)) (fun _ => (0 : Int32)) (fun _ => (0 : Int32)) (fun _ => (0 : Int32))) [0, 1, 2, 3, 4, 5] (by decide) rfl
  have hK9 := hK.sub (tys' := [((cyOf [cA2, cA4, cA6, cA8, cA10]) 1, .int), ((cyOf [cA2, cA4, cA6, cA8, cA10]) 2, .int), ((cyOf [cA2, cA4, cA6, cA8, cA10]) 3, .int), ((cyOf [cA2, cA4, cA6, cA8, cA10]) 4, .int), ((cyOf [cA2, cA4, cA6, cA8, cA10]) 5, .int)]) [0, 1, 2, 3, 4] rfl
  exact hret _ _ _ _ _ _ ⟨[q1, q3, q5, q7, q9], (cyOf [cA2, cA4, cA6, cA8, cA10]), rfl, rfl⟩ hK9 hP9 hD9 hS dX10_init_45
abbrev rm_i0 : Room := { frames := 1, cells := 3, slots := 21, locals := 12 }
theorem hd_i0_init : yX0_init.cls ≠ "java/lang/invoke/MethodHandle" ∧ yX0_init.cls ≠ "java/lang/invoke/VarHandle" ∧ (parseMethodDescriptor yX0_init.desc).map (fun d => d.parameters.length) = some 0 := by decide +kernel
set_option maxHeartbeats 4000000 in
set_option maxRecDepth 100000 in
theorem i0 {l : Launch} {D : va_G} {a0  : Nat} : MetC l yX0_init cX0_init 1 rm_i0 D [] [(a0, .inr (0, [.int 0, .null, .null, .null]))] [.ref a0] (fun _ => True) 3 21 (fun w t => ∃ (L : List Nat) (cy : Nat → ClassId), w = cH (adOf a0 L) cy ((-1 : Int32)) (fun _ => (0 : Int32)) (fun _ => (0 : Int32)) (fun _ => (0 : Int64)) ∧ t = [(cy 1, .int), (cy 2, .int), (cy 3, .long)]) := by
  refine metC_of (own := RX0) rfl (by decide) (Nat.le_of_ble_eq_true rfl) ?_
  intro p e s m args below meth c A Q ls S hK hA hP hD hS hl hEv hin hret
  obtain ⟨hx, hb, hml, hown, hts⟩ := id S
  replace hl : lv_has ls 1 [(0, .ref a0)] := hl
  generalize hH : s.heap = H at hP ⊢
  replace hS : va_S A s.heap H [] := by rw [← hH]; exact hS
  generalize hlo : ([] : List Loc) = locs at hS ⊢
  refine lv_aload_n hx hb dX0_init_0 rfl (lv_at hl 0 rfl) ?_
  refine W.objInit hx hb hown (hts _ mw_5_14) (hts _ mw_1_10) (hts _ mw_1_11) rfl (by rw [hml]; exact hl.1) rfl dX0_init_1 (Nat.le_of_ble_eq_true rfl) (Nat.le_of_ble_eq_true rfl) ?_
  refine W.eq (g2 := F0 m 4 ls []) rfl ?_
  refine lv_aload_n hx hb dX0_init_4 rfl (lv_at hl 0 rfl) ?_
  refine lv_iconst (v := (-1 : Int32)) hx hb dX0_init_5 (by decide) ?_
  refine va_put (ci := 0) (v := .int (-1 : Int32)) (ty := .int) (C := RX0) (T := TX0) (N := 4) hx hb hts inlX0 tyX0 tyX0_ok nmX0 hown hK hP hD hS 0 rfl rfl 0 (by decide) (hts _ mw_5_15) (fun _ h9 => h9) rfl (by decide +kernel) rfl rfl (Nat.le_of_ble_eq_true rfl) dX0_init_6 (fun H locs hP hD hS => ?_)
  replace hP : va_P D vwCl ([(a0, .inr (0, [.int (-1 : Int32), .null, .null, .null]))]) H := hP
  replace hD : va_D A ([(a0, .inr (0, [.int (-1 : Int32), .null, .null, .null]))]) := hD
  refine lv_aload_n hx hb dX0_init_9 rfl (lv_at hl 0 rfl) ?_
  refine lv_iconst (v := (4 : Int32)) hx hb dX0_init_10 (by decide) ?_
  refine va_newa (atype := .int) (N' := 4) (a0 := (4, .inl (fun _ => (0 : Int32)))) hx hb (hts _ mw_3_11) rfl hK hP hD hS hA (vpc_i 4) (by decide) rfl (Nat.le_of_ble_eq_true rfl) (Nat.le_of_ble_eq_true rfl) (Nat.le_of_ble_eq_true rfl) dX0_init_11 (fun q1 cA2 H hK hP hD hS => ?_)
  replace hP : va_P D vwCl ([(a0, .inr (0, [.int (-1 : Int32), .null, .null, .null]))] ++ [(q1, .inl (cA2, 4, .inl (fun _ => (0 : Int32))))]) H := hP
  replace hD : va_D A ([(a0, .inr (0, [.int (-1 : Int32), .null, .null, .null]))] ++ [(q1, .inl (cA2, 4, .inl (fun _ => (0 : Int32))))]) := hD
  replace hK : va_K D vwCl [(cA2, .int)] s := hK
  refine W.widen (k := 1) (n := 4) (Nat.le_refl _) (Nat.le_refl _) ?_
  refine va_putF (ci := 0) (v := .ref q1) (ty := (.array .int)) (C := RX0) (T := TX0) (N := 4) hx hb hts inlX0 tyX0 tyX0_ok nmX0 hown hK hP hD hS 0 rfl rfl 1 (by decide) (hts _ mw_5_16) (fun _ h9 => h9) rfl hin rfl (by decide +kernel) rfl rfl (Nat.le_of_ble_eq_true rfl) dX0_init_13 (fun H locs hP hD hS => ?_)
  replace hP : va_P D vwCl ([(a0, .inr (0, [.int (-1 : Int32), .ref q1, .null, .null]))] ++ [(q1, .inl (cA2, 4, .inl (fun _ => (0 : Int32))))]) H := hP
  replace hD : va_D A ([(a0, .inr (0, [.int (-1 : Int32), .ref q1, .null, .null]))] ++ [(q1, .inl (cA2, 4, .inl (fun _ => (0 : Int32))))]) := hD
  refine lv_aload_n hx hb dX0_init_16 rfl (lv_at hl 0 rfl) ?_
  refine lv_iconst (v := (4 : Int32)) hx hb dX0_init_17 (by decide) ?_
  refine va_newa (atype := .int) (N' := 4) (a0 := (4, .inl (fun _ => (0 : Int32)))) hx hb (hts _ mw_3_11) rfl hK hP hD hS hA (vpc_i 4) (by decide) rfl (Nat.le_of_ble_eq_true rfl) (Nat.le_of_ble_eq_true rfl) (Nat.le_of_ble_eq_true rfl) dX0_init_18 (fun q3 cA4 H hK hP hD hS => ?_)
  replace hP : va_P D vwCl ([(a0, .inr (0, [.int (-1 : Int32), .ref q1, .null, .null]))] ++ [(q1, .inl (cA2, 4, .inl (fun _ => (0 : Int32))))] ++ [(q3, .inl (cA4, 4, .inl (fun _ => (0 : Int32))))]) H := hP
  replace hD : va_D A ([(a0, .inr (0, [.int (-1 : Int32), .ref q1, .null, .null]))] ++ [(q1, .inl (cA2, 4, .inl (fun _ => (0 : Int32))))] ++ [(q3, .inl (cA4, 4, .inl (fun _ => (0 : Int32))))]) := hD
  replace hK : va_K D vwCl [(cA2, .int), (cA4, .int)] s := hK
  refine W.widen (k := 2) (n := 8) (Nat.le_refl _) (Nat.le_refl _) ?_
  refine va_putF (ci := 0) (v := .ref q3) (ty := (.array .int)) (C := RX0) (T := TX0) (N := 4) hx hb hts inlX0 tyX0 tyX0_ok nmX0 hown hK hP hD hS 0 rfl rfl 2 (by decide) (hts _ mw_5_17) (fun _ h9 => h9) rfl hin rfl (by decide +kernel) rfl rfl (Nat.le_of_ble_eq_true rfl) dX0_init_20 (fun H locs hP hD hS => ?_)
  replace hP : va_P D vwCl ([(a0, .inr (0, [.int (-1 : Int32), .ref q1, .ref q3, .null]))] ++ [(q1, .inl (cA2, 4, .inl (fun _ => (0 : Int32))))] ++ [(q3, .inl (cA4, 4, .inl (fun _ => (0 : Int32))))]) H := hP
  replace hD : va_D A ([(a0, .inr (0, [.int (-1 : Int32), .ref q1, .ref q3, .null]))] ++ [(q1, .inl (cA2, 4, .inl (fun _ => (0 : Int32))))] ++ [(q3, .inl (cA4, 4, .inl (fun _ => (0 : Int32))))]) := hD
  refine lv_aload_n hx hb dX0_init_23 rfl (lv_at hl 0 rfl) ?_
  refine lv_bipush (v := (13 : Int32)) hx hb dX0_init_24 (by decide) ?_
  refine va_newa (atype := .long) (N' := 13) (a0 := (13, .inr (.inl (fun _ => (0 : Int64))))) hx hb (hts _ mw_5_18) rfl hK hP hD hS hA (vpc_j 13) (by decide) rfl (Nat.le_of_ble_eq_true rfl) (Nat.le_of_ble_eq_true rfl) (Nat.le_of_ble_eq_true rfl) dX0_init_26 (fun q5 cA6 H hK hP hD hS => ?_)
  replace hP : va_P D vwCl ([(a0, .inr (0, [.int (-1 : Int32), .ref q1, .ref q3, .null]))] ++ [(q1, .inl (cA2, 4, .inl (fun _ => (0 : Int32))))] ++ [(q3, .inl (cA4, 4, .inl (fun _ => (0 : Int32))))] ++ [(q5, .inl (cA6, 13, .inr (.inl (fun _ => (0 : Int64)))))]) H := hP
  replace hD : va_D A ([(a0, .inr (0, [.int (-1 : Int32), .ref q1, .ref q3, .null]))] ++ [(q1, .inl (cA2, 4, .inl (fun _ => (0 : Int32))))] ++ [(q3, .inl (cA4, 4, .inl (fun _ => (0 : Int32))))] ++ [(q5, .inl (cA6, 13, .inr (.inl (fun _ => (0 : Int64)))))]) := hD
  replace hK : va_K D vwCl [(cA2, .int), (cA4, .int), (cA6, .long)] s := hK
  refine W.widen (k := 3) (n := 21) (Nat.le_refl _) (Nat.le_refl _) ?_
  refine va_putF (ci := 0) (v := .ref q5) (ty := (.array .long)) (C := RX0) (T := TX0) (N := 4) hx hb hts inlX0 tyX0 tyX0_ok nmX0 hown hK hP hD hS 0 rfl rfl 3 (by decide) (hts _ mw_5_19) (fun _ h9 => h9) rfl hin rfl (by decide +kernel) rfl rfl (Nat.le_of_ble_eq_true rfl) dX0_init_28 (fun H locs hP hD hS => ?_)
  replace hP : va_P D vwCl ([(a0, .inr (0, [.int (-1 : Int32), .ref q1, .ref q3, .ref q5]))] ++ [(q1, .inl (cA2, 4, .inl (fun _ => (0 : Int32))))] ++ [(q3, .inl (cA4, 4, .inl (fun _ => (0 : Int32))))] ++ [(q5, .inl (cA6, 13, .inr (.inl (fun _ => (0 : Int64)))))]) H := hP
  replace hD : va_D A ([(a0, .inr (0, [.int (-1 : Int32), .ref q1, .ref q3, .ref q5]))] ++ [(q1, .inl (cA2, 4, .inl (fun _ => (0 : Int32))))] ++ [(q3, .inl (cA4, 4, .inl (fun _ => (0 : Int32))))] ++ [(q5, .inl (cA6, 13, .inr (.inl (fun _ => (0 : Int64)))))]) := hD
  have hP9 := hP.sub (ws' := cH (adOf a0 [q1, q3, q5]) (cyOf [cA2, cA4, cA6]) ((-1 : Int32)) (fun _ => (0 : Int32)) (fun _ => (0 : Int32)) (fun _ => (0 : Int64))) [0, 1, 2, 3] rfl
  have hD9 := hD.sub (ws' := cH (adOf a0 [q1, q3, q5]) (cyOf [cA2, cA4, cA6]) ((-1 : Int32)) (fun _ => (0 : Int32)) (fun _ => (0 : Int32)) (fun _ => (0 : Int64))) [0, 1, 2, 3] (by decide) rfl
  have hK9 := hK.sub (tys' := [((cyOf [cA2, cA4, cA6]) 1, .int), ((cyOf [cA2, cA4, cA6]) 2, .int), ((cyOf [cA2, cA4, cA6]) 3, .long)]) [0, 1, 2] rfl
  exact hret _ _ _ _ _ _ ⟨[q1, q3, q5], (cyOf [cA2, cA4, cA6]), rfl, rfl⟩ hK9 hP9 hD9 hS dX0_init_31
abbrev rm_i3 : Room := { frames := 1, cells := 1, slots := 63, locals := 12 }
theorem hd_i3_init : yX3_init.cls ≠ "java/lang/invoke/MethodHandle" ∧ yX3_init.cls ≠ "java/lang/invoke/VarHandle" ∧ (parseMethodDescriptor yX3_init.desc).map (fun d => d.parameters.length) = some 2 := by decide +kernel
set_option maxHeartbeats 4000000 in
set_option maxRecDepth 100000 in
theorem i3 {l : Launch} {D : va_G} {a0 b1 b2 : Nat} : MetC l yX3_init cX3_init 3 rm_i3 D [] [(a0, .inr (3, [.int 0, .int 0, .int 0, .int 0, .int 0, .int 0, .int 0, .int 0, .int 0, .int 0, .int 0, .null, .null, .null]))] [.ref a0, .ref b1, .ref b2] (fun _ => True) 1 63 (fun w t => ∃ (L : List Nat) (cy : Nat → ClassId), w = cO (adOf a0 L) cy (0 : Int32) (0 : Int32) (0 : Int32) (0 : Int32) (0 : Int32) (0 : Int32) (0 : Int32) (0 : Int32) (0 : Int32) (0 : Int32) (0 : Int32) b1 b2 (fun _ => (0 : Int32)) ∧ t = [(cy 1, .int)]) := by
  refine metC_of (own := RX3) rfl (by decide) (Nat.le_of_ble_eq_true rfl) ?_
  intro p e s m args below meth c A Q ls S hK hA hP hD hS hl hEv hin hret
  obtain ⟨hx, hb, hml, hown, hts⟩ := id S
  replace hl : lv_has ls 3 [(0, .ref a0), (1, .ref b1), (2, .ref b2)] := hl
  generalize hH : s.heap = H at hP ⊢
  replace hS : va_S A s.heap H [] := by rw [← hH]; exact hS
  generalize hlo : ([] : List Loc) = locs at hS ⊢
  refine lv_aload_n hx hb dX3_init_0 rfl (lv_at hl 0 rfl) ?_
  refine W.objInit hx hb hown (hts _ mw_5_23) (hts _ mw_1_10) (hts _ mw_1_11) rfl (by rw [hml]; exact hl.1) rfl dX3_init_1 (Nat.le_of_ble_eq_true rfl) (Nat.le_of_ble_eq_true rfl) ?_
  refine W.eq (g2 := F0 m 4 ls []) rfl ?_
  refine lv_aload_n hx hb dX3_init_4 rfl (lv_at hl 0 rfl) ?_
  refine lv_bipush (v := (63 : Int32)) hx hb dX3_init_5 (by decide) ?_
  refine va_newa (atype := .int) (N' := 63) (a0 := (63, .inl (fun _ => (0 : Int32)))) hx hb (hts _ mw_3_11) rfl hK hP hD hS hA (vpc_i 63) (by decide) rfl (Nat.le_of_ble_eq_true rfl) (Nat.le_of_ble_eq_true rfl) (Nat.le_of_ble_eq_true rfl) dX3_init_7 (fun q1 cA2 H hK hP hD hS => ?_)
  replace hP : va_P D vwCl ([(a0, .inr (3, [.int 0, .int 0, .int 0, .int 0, .int 0, .int 0, .int 0, .int 0, .int 0, .int 0, .int 0, .null, .null, .null]))] ++ [(q1, .inl (cA2, 63, .inl (fun _ => (0 : Int32))))]) H := hP
  replace hD : va_D A ([(a0, .inr (3, [.int 0, .int 0, .int 0, .int 0, .int 0, .int 0, .int 0, .int 0, .int 0, .int 0, .int 0, .null, .null, .null]))] ++ [(q1, .inl (cA2, 63, .inl (fun _ => (0 : Int32))))]) := hD
  replace hK : va_K D vwCl [(cA2, .int)] s := hK
  refine W.widen (k := 1) (n := 63) (Nat.le_refl _) (Nat.le_refl _) ?_
  refine va_putF (ci := 3) (v := .ref q1) (ty := (.array .int)) (C := RX3) (T := TX3) (N := 14) hx hb hts inlX3 tyX3 tyX3_ok nmX3 hown hK hP hD hS 0 rfl rfl 13 (by decide) (hts _ mw_6_0) (fun _ h9 => h9) rfl hin rfl (by decide +kernel) rfl rfl (Nat.le_of_ble_eq_true rfl) dX3_init_9 (fun H locs hP hD hS => ?_)
  replace hP : va_P D vwCl ([(a0, .inr (3, [.int 0, .int 0, .int 0, .int 0, .int 0, .int 0, .int 0, .int 0, .int 0, .int 0, .int 0, .null, .null, .ref q1]))] ++ [(q1, .inl (cA2, 63, .inl (fun _ => (0 : Int32))))]) H := hP
  replace hD : va_D A ([(a0, .inr (3, [.int 0, .int 0, .int 0, .int 0, .int 0, .int 0, .int 0, .int 0, .int 0, .int 0, .int 0, .null, .null, .ref q1]))] ++ [(q1, .inl (cA2, 63, .inl (fun _ => (0 : Int32))))]) := hD
  refine lv_aload_n hx hb dX3_init_12 rfl (lv_at hl 0 rfl) ?_
  refine lv_aload_n hx hb dX3_init_13 rfl (lv_at hl 1 rfl) ?_
  refine va_putF (ci := 3) (v := .ref b1) (ty := (.object "LadderLand$Hours")) (C := RX3) (T := TX3) (N := 14) hx hb hts inlX3 tyX3 tyX3_ok nmX3 hown hK hP hD hS 0 rfl rfl 11 (by decide) (hts _ mw_6_1) (fun _ h9 => h9) rfl hin rfl (by decide +kernel) rfl rfl (Nat.le_of_ble_eq_true rfl) dX3_init_14 (fun H locs hP hD hS => ?_)
  replace hP : va_P D vwCl ([(a0, .inr (3, [.int 0, .int 0, .int 0, .int 0, .int 0, .int 0, .int 0, .int 0, .int 0, .int 0, .int 0, .ref b1, .null, .ref q1]))] ++ [(q1, .inl (cA2, 63, .inl (fun _ => (0 : Int32))))]) H := hP
  replace hD : va_D A ([(a0, .inr (3, [.int 0, .int 0, .int 0, .int 0, .int 0, .int 0, .int 0, .int 0, .int 0, .int 0, .int 0, .ref b1, .null, .ref q1]))] ++ [(q1, .inl (cA2, 63, .inl (fun _ => (0 : Int32))))]) := hD
  refine lv_aload_n hx hb dX3_init_17 rfl (lv_at hl 0 rfl) ?_
  refine lv_aload_n hx hb dX3_init_18 rfl (lv_at hl 2 rfl) ?_
  refine va_putF (ci := 3) (v := .ref b2) (ty := (.object "LadderLand$World")) (C := RX3) (T := TX3) (N := 14) hx hb hts inlX3 tyX3 tyX3_ok nmX3 hown hK hP hD hS 0 rfl rfl 12 (by decide) (hts _ mw_6_2) (fun _ h9 => h9) rfl hin rfl (by decide +kernel) rfl rfl (Nat.le_of_ble_eq_true rfl) dX3_init_19 (fun H locs hP hD hS => ?_)
  replace hP : va_P D vwCl ([(a0, .inr (3, [.int 0, .int 0, .int 0, .int 0, .int 0, .int 0, .int 0, .int 0, .int 0, .int 0, .int 0, .ref b1, .ref b2, .ref q1]))] ++ [(q1, .inl (cA2, 63, .inl (fun _ => (0 : Int32))))]) H := hP
  replace hD : va_D A ([(a0, .inr (3, [.int 0, .int 0, .int 0, .int 0, .int 0, .int 0, .int 0, .int 0, .int 0, .int 0, .int 0, .ref b1, .ref b2, .ref q1]))] ++ [(q1, .inl (cA2, 63, .inl (fun _ => (0 : Int32))))]) := hD
  have hP9 := hP.sub (ws' := cO (adOf a0 [q1]) (cyOf [cA2]) (0 : Int32) (0 : Int32) (0 : Int32) (0 : Int32) (0 : Int32) (0 : Int32) (0 : Int32) (0 : Int32) (0 : Int32) (0 : Int32) (0 : Int32) b1 b2 (fun _ => (0 : Int32))) [0, 1] rfl
  have hD9 := hD.sub (ws' := cO (adOf a0 [q1]) (cyOf [cA2]) (0 : Int32) (0 : Int32) (0 : Int32) (0 : Int32) (0 : Int32) (0 : Int32) (0 : Int32) (0 : Int32) (0 : Int32) (0 : Int32) (0 : Int32) b1 b2 (fun _ => (0 : Int32))) [0, 1] (by decide) rfl
  have hK9 := hK.sub (tys' := [((cyOf [cA2]) 1, .int)]) [0] rfl
  exact hret _ _ _ _ _ _ ⟨[q1], (cyOf [cA2]), rfl, rfl⟩ hK9 hP9 hD9 hS dX3_init_22
abbrev rm_i4 : Room := { frames := 1, cells := 7, slots := 35, locals := 12 }
theorem hd_i4_init : yX4_init.cls ≠ "java/lang/invoke/MethodHandle" ∧ yX4_init.cls ≠ "java/lang/invoke/VarHandle" ∧ (parseMethodDescriptor yX4_init.desc).map (fun d => d.parameters.length) = some 1 := by decide +kernel
set_option maxHeartbeats 4000000 in
set_option maxRecDepth 100000 in
theorem i4 {l : Launch} {D : va_G} {a0 b1 : Nat} : MetC l yX4_init cX4_init 2 rm_i4 D [] [(a0, .inr (4, [.null, .int 0, .null, .null, .int 0, .int 0, .int 0, .null, .null, .null, .null, .null]))] [.ref a0, .ref b1] (fun _ => True) 7 35 (fun w t => ∃ (L : List Nat) (cy : Nat → ClassId), w = cPt a0 (adOf a0 L) cy b1 (0 : Int32) 0 (fun _ => (0 : Int32)) 0 (fun _ => (0 : Int32)) (0 : Int32) (0 : Int32) (0 : Int32) (fun _ => (0 : Int32)) (fun _ => (0 : Int32)) (fun _ => (0 : Int32)) (fun _ => (0 : Int32)) (fun _ => (0 : Int32)) ∧ t = [(cy 1, .int), (cy 2, .int), (cy 3, .int), (cy 4, .int), (cy 5, .int), (cy 6, .int), (cy 7, .int)]) := by
  refine metC_of (own := RX4) rfl (by decide) (Nat.le_of_ble_eq_true rfl) ?_
  intro p e s m args below meth c A Q ls S hK hA hP hD hS hl hEv hin hret
  obtain ⟨hx, hb, hml, hown, hts⟩ := id S
  replace hl : lv_has ls 2 [(0, .ref a0), (1, .ref b1)] := hl
  generalize hH : s.heap = H at hP ⊢
  replace hS : va_S A s.heap H [] := by rw [← hH]; exact hS
  generalize hlo : ([] : List Loc) = locs at hS ⊢
  refine lv_aload_n hx hb dX4_init_0 rfl (lv_at hl 0 rfl) ?_
  refine W.objInit hx hb hown (hts _ mw_6_6) (hts _ mw_1_10) (hts _ mw_1_11) rfl (by rw [hml]; exact hl.1) rfl dX4_init_1 (Nat.le_of_ble_eq_true rfl) (Nat.le_of_ble_eq_true rfl) ?_
  refine W.eq (g2 := F0 m 4 ls []) rfl ?_
  refine lv_aload_n hx hb dX4_init_4 rfl (lv_at hl 0 rfl) ?_
  refine lv_iconst (v := (0 : Int32)) hx hb dX4_init_5 (by decide) ?_
  refine va_newa (atype := .int) (N' := 0) (a0 := (0, .inl (fun _ => (0 : Int32)))) hx hb (hts _ mw_3_11) rfl hK hP hD hS hA (vpc_i 0) (by decide) rfl (Nat.le_of_ble_eq_true rfl) (Nat.le_of_ble_eq_true rfl) (Nat.le_of_ble_eq_true rfl) dX4_init_6 (fun q1 cA2 H hK hP hD hS => ?_)
  replace hP : va_P D vwCl ([(a0, .inr (4, [.null, .int 0, .null, .null, .int 0, .int 0, .int 0, .null, .null, .null, .null, .null]))] ++ [(q1, .inl (cA2, 0, .inl (fun _ => (0 : Int32))))]) H := hP
  replace hD : va_D A ([(a0, .inr (4, [.null, .int 0, .null, .null, .int 0, .int 0, .int 0, .null, .null, .null, .null, .null]))] ++ [(q1, .inl (cA2, 0, .inl (fun _ => (0 : Int32))))]) := hD
  replace hK : va_K D vwCl [(cA2, .int)] s := hK
  refine W.widen (k := 1) (n := 0) (Nat.le_refl _) (Nat.le_refl _) ?_
  refine va_put (ci := 4) (v := .ref q1) (ty := (.array .int)) (C := RX4) (T := TX4) (N := 12) hx hb hts inlX4 tyX4 tyX4_ok nmX4 hown hK hP hD hS 0 rfl rfl 2 (by decide) (hts _ mw_6_7) (fun _ h9 => h9) rfl (by decide +kernel) rfl rfl (Nat.le_of_ble_eq_true rfl) dX4_init_8 (fun H locs hP hD hS => ?_)
  replace hP : va_P D vwCl ([(a0, .inr (4, [.null, .int 0, .ref q1, .null, .int 0, .int 0, .int 0, .null, .null, .null, .null, .null]))] ++ [(q1, .inl (cA2, 0, .inl (fun _ => (0 : Int32))))]) H := hP
  replace hD : va_D A ([(a0, .inr (4, [.null, .int 0, .ref q1, .null, .int 0, .int 0, .int 0, .null, .null, .null, .null, .null]))] ++ [(q1, .inl (cA2, 0, .inl (fun _ => (0 : Int32))))]) := hD
  refine lv_aload_n hx hb dX4_init_11 rfl (lv_at hl 0 rfl) ?_
  refine lv_iconst (v := (0 : Int32)) hx hb dX4_init_12 (by decide) ?_
  refine va_newa (atype := .int) (N' := 0) (a0 := (0, .inl (fun _ => (0 : Int32)))) hx hb (hts _ mw_3_11) rfl hK hP hD hS hA (vpc_i 0) (by decide) rfl (Nat.le_of_ble_eq_true rfl) (Nat.le_of_ble_eq_true rfl) (Nat.le_of_ble_eq_true rfl) dX4_init_13 (fun q3 cA4 H hK hP hD hS => ?_)
  replace hP : va_P D vwCl ([(a0, .inr (4, [.null, .int 0, .ref q1, .null, .int 0, .int 0, .int 0, .null, .null, .null, .null, .null]))] ++ [(q1, .inl (cA2, 0, .inl (fun _ => (0 : Int32))))] ++ [(q3, .inl (cA4, 0, .inl (fun _ => (0 : Int32))))]) H := hP
  replace hD : va_D A ([(a0, .inr (4, [.null, .int 0, .ref q1, .null, .int 0, .int 0, .int 0, .null, .null, .null, .null, .null]))] ++ [(q1, .inl (cA2, 0, .inl (fun _ => (0 : Int32))))] ++ [(q3, .inl (cA4, 0, .inl (fun _ => (0 : Int32))))]) := hD
  replace hK : va_K D vwCl [(cA2, .int), (cA4, .int)] s := hK
  refine W.widen (k := 2) (n := 0) (Nat.le_refl _) (Nat.le_refl _) ?_
  refine va_put (ci := 4) (v := .ref q3) (ty := (.array .int)) (C := RX4) (T := TX4) (N := 12) hx hb hts inlX4 tyX4 tyX4_ok nmX4 hown hK hP hD hS 0 rfl rfl 3 (by decide) (hts _ mw_6_8) (fun _ h9 => h9) rfl (by decide +kernel) rfl rfl (Nat.le_of_ble_eq_true rfl) dX4_init_15 (fun H locs hP hD hS => ?_)
  replace hP : va_P D vwCl ([(a0, .inr (4, [.null, .int 0, .ref q1, .ref q3, .int 0, .int 0, .int 0, .null, .null, .null, .null, .null]))] ++ [(q1, .inl (cA2, 0, .inl (fun _ => (0 : Int32))))] ++ [(q3, .inl (cA4, 0, .inl (fun _ => (0 : Int32))))]) H := hP
  replace hD : va_D A ([(a0, .inr (4, [.null, .int 0, .ref q1, .ref q3, .int 0, .int 0, .int 0, .null, .null, .null, .null, .null]))] ++ [(q1, .inl (cA2, 0, .inl (fun _ => (0 : Int32))))] ++ [(q3, .inl (cA4, 0, .inl (fun _ => (0 : Int32))))]) := hD
  refine lv_aload_n hx hb dX4_init_18 rfl (lv_at hl 0 rfl) ?_
  refine lv_iconst (v := (4 : Int32)) hx hb dX4_init_19 (by decide) ?_
  refine va_newa (atype := .int) (N' := 4) (a0 := (4, .inl (fun _ => (0 : Int32)))) hx hb (hts _ mw_3_11) rfl hK hP hD hS hA (vpc_i 4) (by decide) rfl (Nat.le_of_ble_eq_true rfl) (Nat.le_of_ble_eq_true rfl) (Nat.le_of_ble_eq_true rfl) dX4_init_20 (fun q5 cA6 H hK hP hD hS => ?_)
  replace hP : va_P D vwCl ([(a0, .inr (4, [.null, .int 0, .ref q1, .ref q3, .int 0, .int 0, .int 0, .null, .null, .null, .null, .null]))] ++ [(q1, .inl (cA2, 0, .inl (fun _ => (0 : Int32))))] ++ [(q3, .inl (cA4, 0, .inl (fun _ => (0 : Int32))))] ++ [(q5, .inl (cA6, 4, .inl (fun _ => (0 : Int32))))]) H := hP
  replace hD : va_D A ([(a0, .inr (4, [.null, .int 0, .ref q1, .ref q3, .int 0, .int 0, .int 0, .null, .null, .null, .null, .null]))] ++ [(q1, .inl (cA2, 0, .inl (fun _ => (0 : Int32))))] ++ [(q3, .inl (cA4, 0, .inl (fun _ => (0 : Int32))))] ++ [(q5, .inl (cA6, 4, .inl (fun _ => (0 : Int32))))]) := hD
  replace hK : va_K D vwCl [(cA2, .int), (cA4, .int), (cA6, .int)] s := hK
  refine W.widen (k := 3) (n := 4) (Nat.le_refl _) (Nat.le_refl _) ?_
  refine va_putF (ci := 4) (v := .ref q5) (ty := (.array .int)) (C := RX4) (T := TX4) (N := 12) hx hb hts inlX4 tyX4 tyX4_ok nmX4 hown hK hP hD hS 0 rfl rfl 7 (by decide) (hts _ mw_6_9) (fun _ h9 => h9) rfl hin rfl (by decide +kernel) rfl rfl (Nat.le_of_ble_eq_true rfl) dX4_init_22 (fun H locs hP hD hS => ?_)
  replace hP : va_P D vwCl ([(a0, .inr (4, [.null, .int 0, .ref q1, .ref q3, .int 0, .int 0, .int 0, .ref q5, .null, .null, .null, .null]))] ++ [(q1, .inl (cA2, 0, .inl (fun _ => (0 : Int32))))] ++ [(q3, .inl (cA4, 0, .inl (fun _ => (0 : Int32))))] ++ [(q5, .inl (cA6, 4, .inl (fun _ => (0 : Int32))))]) H := hP
  replace hD : va_D A ([(a0, .inr (4, [.null, .int 0, .ref q1, .ref q3, .int 0, .int 0, .int 0, .ref q5, .null, .null, .null, .null]))] ++ [(q1, .inl (cA2, 0, .inl (fun _ => (0 : Int32))))] ++ [(q3, .inl (cA4, 0, .inl (fun _ => (0 : Int32))))] ++ [(q5, .inl (cA6, 4, .inl (fun _ => (0 : Int32))))]) := hD
  refine lv_aload_n hx hb dX4_init_25 rfl (lv_at hl 0 rfl) ?_
  refine lv_iconst (v := (4 : Int32)) hx hb dX4_init_26 (by decide) ?_
  refine va_newa (atype := .int) (N' := 4) (a0 := (4, .inl (fun _ => (0 : Int32)))) hx hb (hts _ mw_3_11) rfl hK hP hD hS hA (vpc_i 4) (by decide) rfl (Nat.le_of_ble_eq_true rfl) (Nat.le_of_ble_eq_true rfl) (Nat.le_of_ble_eq_true rfl) dX4_init_27 (fun q7 cA8 H hK hP hD hS => ?_)
  replace hP : va_P D vwCl ([(a0, .inr (4, [.null, .int 0, .ref q1, .ref q3, .int 0, .int 0, .int 0, .ref q5, .null, .null, .null, .null]))] ++ [(q1, .inl (cA2, 0, .inl (fun _ => (0 : Int32))))] ++ [(q3, .inl (cA4, 0, .inl (fun _ => (0 : Int32))))] ++ [(q5, .inl (cA6, 4, .inl (fun _ => (0 : Int32))))] ++ [(q7, .inl (cA8, 4, .inl (fun _ => (0 : Int32))))]) H := hP
  replace hD : va_D A ([(a0, .inr (4, [.null, .int 0, .ref q1, .ref q3, .int 0, .int 0, .int 0, .ref q5, .null, .null, .null, .null]))] ++ [(q1, .inl (cA2, 0, .inl (fun _ => (0 : Int32))))] ++ [(q3, .inl (cA4, 0, .inl (fun _ => (0 : Int32))))] ++ [(q5, .inl (cA6, 4, .inl (fun _ => (0 : Int32))))] ++ [(q7, .inl (cA8, 4, .inl (fun _ => (0 : Int32))))]) := hD
  replace hK : va_K D vwCl [(cA2, .int), (cA4, .int), (cA6, .int), (cA8, .int)] s := hK
  refine W.widen (k := 4) (n := 8) (Nat.le_refl _) (Nat.le_refl _) ?_
  refine va_putF (ci := 4) (v := .ref q7) (ty := (.array .int)) (C := RX4) (T := TX4) (N := 12) hx hb hts inlX4 tyX4 tyX4_ok nmX4 hown hK hP hD hS 0 rfl rfl 8 (by decide) (hts _ mw_6_10) (fun _ h9 => h9) rfl hin rfl (by decide +kernel) rfl rfl (Nat.le_of_ble_eq_true rfl) dX4_init_29 (fun H locs hP hD hS => ?_)
  replace hP : va_P D vwCl ([(a0, .inr (4, [.null, .int 0, .ref q1, .ref q3, .int 0, .int 0, .int 0, .ref q5, .ref q7, .null, .null, .null]))] ++ [(q1, .inl (cA2, 0, .inl (fun _ => (0 : Int32))))] ++ [(q3, .inl (cA4, 0, .inl (fun _ => (0 : Int32))))] ++ [(q5, .inl (cA6, 4, .inl (fun _ => (0 : Int32))))] ++ [(q7, .inl (cA8, 4, .inl (fun _ => (0 : Int32))))]) H := hP
  replace hD : va_D A ([(a0, .inr (4, [.null, .int 0, .ref q1, .ref q3, .int 0, .int 0, .int 0, .ref q5, .ref q7, .null, .null, .null]))] ++ [(q1, .inl (cA2, 0, .inl (fun _ => (0 : Int32))))] ++ [(q3, .inl (cA4, 0, .inl (fun _ => (0 : Int32))))] ++ [(q5, .inl (cA6, 4, .inl (fun _ => (0 : Int32))))] ++ [(q7, .inl (cA8, 4, .inl (fun _ => (0 : Int32))))]) := hD
  refine lv_aload_n hx hb dX4_init_32 rfl (lv_at hl 0 rfl) ?_
  refine lv_bipush (v := (9 : Int32)) hx hb dX4_init_33 (by decide) ?_
  refine va_newa (atype := .int) (N' := 9) (a0 := (9, .inl (fun _ => (0 : Int32)))) hx hb (hts _ mw_3_11) rfl hK hP hD hS hA (vpc_i 9) (by decide) rfl (Nat.le_of_ble_eq_true rfl) (Nat.le_of_ble_eq_true rfl) (Nat.le_of_ble_eq_true rfl) dX4_init_35 (fun q9 cA10 H hK hP hD hS => ?_)
  replace hP : va_P D vwCl ([(a0, .inr (4, [.null, .int 0, .ref q1, .ref q3, .int 0, .int 0, .int 0, .ref q5, .ref q7, .null, .null, .null]))] ++ [(q1, .inl (cA2, 0, .inl (fun _ => (0 : Int32))))] ++ [(q3, .inl (cA4, 0, .inl (fun _ => (0 : Int32))))] ++ [(q5, .inl (cA6, 4, .inl (fun _ => (0 : Int32))))] ++ [(q7, .inl (cA8, 4, .inl (fun _ => (0 : Int32))))] ++ [(q9, .inl (cA10, 9, .inl (fun _ => (0 : Int32))))]) H := hP
  replace hD : va_D A ([(a0, .inr (4, [.null, .int 0, .ref q1, .ref q3, .int 0, .int 0, .int 0, .ref q5, .ref q7, .null, .null, .null]))] ++ [(q1, .inl (cA2, 0, .inl (fun _ => (0 : Int32))))] ++ [(q3, .inl (cA4, 0, .inl (fun _ => (0 : Int32))))] ++ [(q5, .inl (cA6, 4, .inl (fun _ => (0 : Int32))))] ++ [(q7, .inl (cA8, 4, .inl (fun _ => (0 : Int32))))] ++ [(q9, .inl (cA10, 9, .inl (fun _ => (0 : Int32))))]) := hD
  replace hK : va_K D vwCl [(cA2, .int), (cA4, .int), (cA6, .int), (cA8, .int), (cA10, .int)] s := hK
  refine W.widen (k := 5) (n := 17) (Nat.le_refl _) (Nat.le_refl _) ?_
  refine va_putF (ci := 4) (v := .ref q9) (ty := (.array .int)) (C := RX4) (T := TX4) (N := 12) hx hb hts inlX4 tyX4 tyX4_ok nmX4 hown hK hP hD hS 0 rfl rfl 9 (by decide) (hts _ mw_6_11) (fun _ h9 => h9) rfl hin rfl (by decide +kernel) rfl rfl (Nat.le_of_ble_eq_true rfl) dX4_init_37 (fun H locs hP hD hS => ?_)
  replace hP : va_P D vwCl ([(a0, .inr (4, [.null, .int 0, .ref q1, .ref q3, .int 0, .int 0, .int 0, .ref q5, .ref q7, .ref q9, .null, .null]))] ++ [(q1, .inl (cA2, 0, .inl (fun _ => (0 : Int32))))] ++ [(q3, .inl (cA4, 0, .inl (fun _ => (0 : Int32))))] ++ [(q5, .inl (cA6, 4, .inl (fun _ => (0 : Int32))))] ++ [(q7, .inl (cA8, 4, .inl (fun _ => (0 : Int32))))] ++ [(q9, .inl (cA10, 9, .inl (fun _ => (0 : Int32))))]) H := hP
  replace hD : va_D A ([(a0, .inr (4, [.null, .int 0, .ref q1, .ref q3, .int 0, .int 0, .int 0, .ref q5, .ref q7, .ref q9, .null, .null]))] ++ [(q1, .inl (cA2, 0, .inl (fun _ => (0 : Int32))))] ++ [(q3, .inl (cA4, 0, .inl (fun _ => (0 : Int32))))] ++ [(q5, .inl (cA6, 4, .inl (fun _ => (0 : Int32))))] ++ [(q7, .inl (cA8, 4, .inl (fun _ => (0 : Int32))))] ++ [(q9, .inl (cA10, 9, .inl (fun _ => (0 : Int32))))]) := hD
  refine lv_aload_n hx hb dX4_init_40 rfl (lv_at hl 0 rfl) ?_
  refine lv_bipush (v := (9 : Int32)) hx hb dX4_init_41 (by decide) ?_
  refine va_newa (atype := .int) (N' := 9) (a0 := (9, .inl (fun _ => (0 : Int32)))) hx hb (hts _ mw_3_11) rfl hK hP hD hS hA (vpc_i 9) (by decide) rfl (Nat.le_of_ble_eq_true rfl) (Nat.le_of_ble_eq_true rfl) (Nat.le_of_ble_eq_true rfl) dX4_init_43 (fun q11 cA12 H hK hP hD hS => ?_)
  replace hP : va_P D vwCl ([(a0, .inr (4, [.null, .int 0, .ref q1, .ref q3, .int 0, .int 0, .int 0, .ref q5, .ref q7, .ref q9, .null, .null]))] ++ [(q1, .inl (cA2, 0, .inl (fun _ => (0 : Int32))))] ++ [(q3, .inl (cA4, 0, .inl (fun _ => (0 : Int32))))] ++ [(q5, .inl (cA6, 4, .inl (fun _ => (0 : Int32))))] ++ [(q7, .inl (cA8, 4, .inl (fun _ => (0 : Int32))))] ++ [(q9, .inl (cA10, 9, .inl (fun _ => (0 : Int32))))] ++ [(q11, .inl (cA12, 9, .inl (fun _ => (0 : Int32))))]) H := hP
  replace hD : va_D A ([(a0, .inr (4, [.null, .int 0, .ref q1, .ref q3, .int 0, .int 0, .int 0, .ref q5, .ref q7, .ref q9, .null, .null]))] ++ [(q1, .inl (cA2, 0, .inl (fun _ => (0 : Int32))))] ++ [(q3, .inl (cA4, 0, .inl (fun _ => (0 : Int32))))] ++ [(q5, .inl (cA6, 4, .inl (fun _ => (0 : Int32))))] ++ [(q7, .inl (cA8, 4, .inl (fun _ => (0 : Int32))))] ++ [(q9, .inl (cA10, 9, .inl (fun _ => (0 : Int32))))] ++ [(q11, .inl (cA12, 9, .inl (fun _ => (0 : Int32))))]) := hD
  replace hK : va_K D vwCl [(cA2, .int), (cA4, .int), (cA6, .int), (cA8, .int), (cA10, .int), (cA12, .int)] s := hK
  refine W.widen (k := 6) (n := 26) (Nat.le_refl _) (Nat.le_refl _) ?_
  refine va_putF (ci := 4) (v := .ref q11) (ty := (.array .int)) (C := RX4) (T := TX4) (N := 12) hx hb hts inlX4 tyX4 tyX4_ok nmX4 hown hK hP hD hS 0 rfl rfl 10 (by decide) (hts _ mw_6_12) (fun _ h9 => h9) rfl hin rfl (by decide +kernel) rfl rfl (Nat.le_of_ble_eq_true rfl) dX4_init_45 (fun H locs hP hD hS => ?_)
  replace hP : va_P D vwCl ([(a0, .inr (4, [.null, .int 0, .ref q1, .ref q3, .int 0, .int 0, .int 0, .ref q5, .ref q7, .ref q9, .ref q11, .null]))] ++ [(q1, .inl (cA2, 0, .inl (fun _ => (0 : Int32))))] ++ [(q3, .inl (cA4, 0, .inl (fun _ => (0 : Int32))))] ++ [(q5, .inl (cA6, 4, .inl (fun _ => (0 : Int32))))] ++ [(q7, .inl (cA8, 4, .inl (fun _ => (0 : Int32))))] ++ [(q9, .inl (cA10, 9, .inl (fun _ => (0 : Int32))))] ++ [(q11, .inl (cA12, 9, .inl (fun _ => (0 : Int32))))]) H := hP
  replace hD : va_D A ([(a0, .inr (4, [.null, .int 0, .ref q1, .ref q3, .int 0, .int 0, .int 0, .ref q5, .ref q7, .ref q9, .ref q11, .null]))] ++ [(q1, .inl (cA2, 0, .inl (fun _ => (0 : Int32))))] ++ [(q3, .inl (cA4, 0, .inl (fun _ => (0 : Int32))))] ++ [(q5, .inl (cA6, 4, .inl (fun _ => (0 : Int32))))] ++ [(q7, .inl (cA8, 4, .inl (fun _ => (0 : Int32))))] ++ [(q9, .inl (cA10, 9, .inl (fun _ => (0 : Int32))))] ++ [(q11, .inl (cA12, 9, .inl (fun _ => (0 : Int32))))]) := hD
  refine lv_aload_n hx hb dX4_init_48 rfl (lv_at hl 0 rfl) ?_
  refine lv_bipush (v := (9 : Int32)) hx hb dX4_init_49 (by decide) ?_
  refine va_newa (atype := .int) (N' := 9) (a0 := (9, .inl (fun _ => (0 : Int32)))) hx hb (hts _ mw_3_11) rfl hK hP hD hS hA (vpc_i 9) (by decide) rfl (Nat.le_of_ble_eq_true rfl) (Nat.le_of_ble_eq_true rfl) (Nat.le_of_ble_eq_true rfl) dX4_init_51 (fun q13 cA14 H hK hP hD hS => ?_)
  replace hP : va_P D vwCl ([(a0, .inr (4, [.null, .int 0, .ref q1, .ref q3, .int 0, .int 0, .int 0, .ref q5, .ref q7, .ref q9, .ref q11, .null]))] ++ [(q1, .inl (cA2, 0, .inl (fun _ => (0 : Int32))))] ++ [(q3, .inl (cA4, 0, .inl (fun _ => (0 : Int32))))] ++ [(q5, .inl (cA6, 4, .inl (fun _ => (0 : Int32))))] ++ [(q7, .inl (cA8, 4, .inl (fun _ => (0 : Int32))))] ++ [(q9, .inl (cA10, 9, .inl (fun _ => (0 : Int32))))] ++ [(q11, .inl (cA12, 9, .inl (fun _ => (0 : Int32))))] ++ [(q13, .inl (cA14, 9, .inl (fun _ => (0 : Int32))))]) H := hP
  replace hD : va_D A ([(a0, .inr (4, [.null, .int 0, .ref q1, .ref q3, .int 0, .int 0, .int 0, .ref q5, .ref q7, .ref q9, .ref q11, .null]))] ++ [(q1, .inl (cA2, 0, .inl (fun _ => (0 : Int32))))] ++ [(q3, .inl (cA4, 0, .inl (fun _ => (0 : Int32))))] ++ [(q5, .inl (cA6, 4, .inl (fun _ => (0 : Int32))))] ++ [(q7, .inl (cA8, 4, .inl (fun _ => (0 : Int32))))] ++ [(q9, .inl (cA10, 9, .inl (fun _ => (0 : Int32))))] ++ [(q11, .inl (cA12, 9, .inl (fun _ => (0 : Int32))))] ++ [(q13, .inl (cA14, 9, .inl (fun _ => (0 : Int32))))]) := hD
  replace hK : va_K D vwCl [(cA2, .int), (cA4, .int), (cA6, .int), (cA8, .int), (cA10, .int), (cA12, .int), (cA14, .int)] s := hK
  refine W.widen (k := 7) (n := 35) (Nat.le_refl _) (Nat.le_refl _) ?_
  refine va_putF (ci := 4) (v := .ref q13) (ty := (.array .int)) (C := RX4) (T := TX4) (N := 12) hx hb hts inlX4 tyX4 tyX4_ok nmX4 hown hK hP hD hS 0 rfl rfl 11 (by decide) (hts _ mw_6_13) (fun _ h9 => h9) rfl hin rfl (by decide +kernel) rfl rfl (Nat.le_of_ble_eq_true rfl) dX4_init_53 (fun H locs hP hD hS => ?_)
  replace hP : va_P D vwCl ([(a0, .inr (4, [.null, .int 0, .ref q1, .ref q3, .int 0, .int 0, .int 0, .ref q5, .ref q7, .ref q9, .ref q11, .ref q13]))] ++ [(q1, .inl (cA2, 0, .inl (fun _ => (0 : Int32))))] ++ [(q3, .inl (cA4, 0, .inl (fun _ => (0 : Int32))))] ++ [(q5, .inl (cA6, 4, .inl (fun _ => (0 : Int32))))] ++ [(q7, .inl (cA8, 4, .inl (fun _ => (0 : Int32))))] ++ [(q9, .inl (cA10, 9, .inl (fun _ => (0 : Int32))))] ++ [(q11, .inl (cA12, 9, .inl (fun _ => (0 : Int32))))] ++ [(q13, .inl (cA14, 9, .inl (fun _ => (0 : Int32))))]) H := hP
  replace hD : va_D A ([(a0, .inr (4, [.null, .int 0, .ref q1, .ref q3, .int 0, .int 0, .int 0, .ref q5, .ref q7, .ref q9, .ref q11, .ref q13]))] ++ [(q1, .inl (cA2, 0, .inl (fun _ => (0 : Int32))))] ++ [(q3, .inl (cA4, 0, .inl (fun _ => (0 : Int32))))] ++ [(q5, .inl (cA6, 4, .inl (fun _ => (0 : Int32))))] ++ [(q7, .inl (cA8, 4, .inl (fun _ => (0 : Int32))))] ++ [(q9, .inl (cA10, 9, .inl (fun _ => (0 : Int32))))] ++ [(q11, .inl (cA12, 9, .inl (fun _ => (0 : Int32))))] ++ [(q13, .inl (cA14, 9, .inl (fun _ => (0 : Int32))))]) := hD
  refine lv_aload_n hx hb dX4_init_56 rfl (lv_at hl 0 rfl) ?_
  refine lv_aload_n hx hb dX4_init_57 rfl (lv_at hl 1 rfl) ?_
  refine va_putF (ci := 4) (v := .ref b1) (ty := (.object "LadderLand$World")) (C := RX4) (T := TX4) (N := 12) hx hb hts inlX4 tyX4 tyX4_ok nmX4 hown hK hP hD hS 0 rfl rfl 0 (by decide) (hts _ mw_6_14) (fun _ h9 => h9) rfl hin rfl (by decide +kernel) rfl rfl (Nat.le_of_ble_eq_true rfl) dX4_init_58 (fun H locs hP hD hS => ?_)
  replace hP : va_P D vwCl ([(a0, .inr (4, [.ref b1, .int 0, .ref q1, .ref q3, .int 0, .int 0, .int 0, .ref q5, .ref q7, .ref q9, .ref q11, .ref q13]))] ++ [(q1, .inl (cA2, 0, .inl (fun _ => (0 : Int32))))] ++ [(q3, .inl (cA4, 0, .inl (fun _ => (0 : Int32))))] ++ [(q5, .inl (cA6, 4, .inl (fun _ => (0 : Int32))))] ++ [(q7, .inl (cA8, 4, .inl (fun _ => (0 : Int32))))] ++ [(q9, .inl (cA10, 9, .inl (fun _ => (0 : Int32))))] ++ [(q11, .inl (cA12, 9, .inl (fun _ => (0 : Int32))))] ++ [(q13, .inl (cA14, 9, .inl (fun _ => (0 : Int32))))]) H := hP
  replace hD : va_D A ([(a0, .inr (4, [.ref b1, .int 0, .ref q1, .ref q3, .int 0, .int 0, .int 0, .ref q5, .ref q7, .ref q9, .ref q11, .ref q13]))] ++ [(q1, .inl (cA2, 0, .inl (fun _ => (0 : Int32))))] ++ [(q3, .inl (cA4, 0, .inl (fun _ => (0 : Int32))))] ++ [(q5, .inl (cA6, 4, .inl (fun _ => (0 : Int32))))] ++ [(q7, .inl (cA8, 4, .inl (fun _ => (0 : Int32))))] ++ [(q9, .inl (cA10, 9, .inl (fun _ => (0 : Int32))))] ++ [(q11, .inl (cA12, 9, .inl (fun _ => (0 : Int32))))] ++ [(q13, .inl (cA14, 9, .inl (fun _ => (0 : Int32))))]) := hD
  have hP9 := hP.sub (ws' := cPt a0 (adOf a0 [q1, q3, q5, q7, q9, q11, q13]) (cyOf [cA2, cA4, cA6, cA8, cA10, cA12, cA14]) b1 (0 : Int32) 0 (fun _ => (0 : Int32)) 0 (fun _ => (0 : Int32)) (0 : Int32) (0 : Int32) (0 : Int32) (fun _ => (0 : Int32)) (fun _ => (0 : Int32)) (fun _ => (0 : Int32)) (fun _ => (0 : Int32)) (fun _ => (0 : Int32))) [0, 1, 2, 3, 4, 5, 6, 7] rfl
  have hD9 := hD.sub (ws' := cPt a0 (adOf a0 [q1, q3, q5, q7, q9, q11, q13]) (cyOf [cA2, cA4, cA6, cA8, cA10, cA12, cA14]) b1 (0 : Int32) 0 (fun _ => (0 : Int32)) 0 (fun _ => (0 : Int32)) (0 : Int32) (0 : Int32) (0 : Int32) (fun _ => (0 : Int32)) (fun _ => (0 : Int32)) (fun _ => (0 : Int32)) (fun _ => (0 : Int32)) (fun _ => (0 : Int32))) [0, 1, 2, 3, 4, 5, 6, 7] (by decide) rfl
  have hK9 := hK.sub (tys' := [((cyOf [cA2, cA4, cA6, cA8, cA10, cA12, cA14]) 1, .int), ((cyOf [cA2, cA4, cA6, cA8, cA10, cA12, cA14]) 2, .int), ((cyOf [cA2, cA4, cA6, cA8, cA10, cA12, cA14]) 3, .int), ((cyOf [cA2, cA4, cA6, cA8, cA10, cA12, cA14]) 4, .int), ((cyOf [cA2, cA4, cA6, cA8, cA10, cA12, cA14]) 5, .int), ((cyOf [cA2, cA4, cA6, cA8, cA10, cA12, cA14]) 6, .int), ((cyOf [cA2, cA4, cA6, cA8, cA10, cA12, cA14]) 7, .int)]) [0, 1, 2, 3, 4, 5, 6] rfl
  exact hret _ _ _ _ _ _ ⟨[q1, q3, q5, q7, q9, q11, q13], (cyOf [cA2, cA4, cA6, cA8, cA10, cA12, cA14]), rfl, rfl⟩ hK9 hP9 hD9 hS dX4_init_61
abbrev rm_i7 : Room := { frames := 1, cells := 0, slots := 0, locals := 12 }
theorem hd_i7_init : yX7_init.cls ≠ "java/lang/invoke/MethodHandle" ∧ yX7_init.cls ≠ "java/lang/invoke/VarHandle" ∧ (parseMethodDescriptor yX7_init.desc).map (fun d => d.parameters.length) = some 1 := by decide +kernel
set_option maxHeartbeats 4000000 in
set_option maxRecDepth 100000 in
theorem i7 {l : Launch} {D : va_G} {a0 b1 : Nat} : MetC l yX7_init cX7_init 2 rm_i7 D [] [(a0, .inr (7, [.int 0, .null]))] [.ref a0, .ref b1] (fun _ => True) 0 0 (fun w t => ∃ (L : List Nat) (cy : Nat → ClassId), w = cSg (adOf a0 L) cy (0 : Int32) b1 ∧ t = []) := by
  refine metC_of (own := RX7) rfl (by decide) (Nat.le_of_ble_eq_true rfl) ?_
  intro p e s m args below meth c A Q ls S hK hA hP hD hS hl hEv hin hret
  obtain ⟨hx, hb, hml, hown, hts⟩ := id S
  replace hl : lv_has ls 2 [(0, .ref a0), (1, .ref b1)] := hl
  generalize hH : s.heap = H at hP ⊢
  replace hS : va_S A s.heap H [] := by rw [← hH]; exact hS
  generalize hlo : ([] : List Loc) = locs at hS ⊢
  refine lv_aload_n hx hb dX7_init_0 rfl (lv_at hl 0 rfl) ?_
  refine W.objInit hx hb hown (hts _ mw_6_18) (hts _ mw_1_10) (hts _ mw_1_11) rfl (by rw [hml]; exact hl.1) rfl dX7_init_1 (Nat.le_of_ble_eq_true rfl) (Nat.le_of_ble_eq_true rfl) ?_
  refine W.eq (g2 := F0 m 4 ls []) rfl ?_
  refine lv_aload_n hx hb dX7_init_4 rfl (lv_at hl 0 rfl) ?_
  refine lv_aload_n hx hb dX7_init_5 rfl (lv_at hl 1 rfl) ?_
  refine va_putF (ci := 7) (v := .ref b1) (ty := (.object "LadderLand$World")) (C := RX7) (T := TX7) (N := 2) hx hb hts inlX7 tyX7 tyX7_ok nmX7 hown hK hP hD hS 0 rfl rfl 1 (by decide) (hts _ mw_6_19) (fun _ h9 => h9) rfl hin rfl (by decide +kernel) rfl rfl (Nat.le_of_ble_eq_true rfl) dX7_init_6 (fun H locs hP hD hS => ?_)
  replace hP : va_P D vwCl ([(a0, .inr (7, [.int 0, .ref b1]))]) H := hP
  replace hD : va_D A ([(a0, .inr (7, [.int 0, .ref b1]))]) := hD
  have hP9 := hP.sub (ws' := cSg (adOf a0 []) (cyOf []) (0 : Int32) b1) [0] rfl
  have hD9 := hD.sub (ws' := cSg (adOf a0 []) (cyOf []) (0 : Int32) b1) [0] (by decide) rfl
  have hK9 := hK.sub (tys' := []) [] rfl
  exact hret _ _ _ _ _ _ ⟨[], (cyOf []), rfl, rfl⟩ hK9 hP9 hD9 hS dX7_init_9

