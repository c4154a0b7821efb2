theorem pm3 {α : Type} (a b c : List α) : ((a ++ b) ++ c).Perm ((a ++ c) ++ b) := by
  rw [List.append_assoc, List.append_assoc]
  exact List.Perm.append_left a List.perm_append_comm
def Ev11 (s : State) : Prop := va_AO RX5 s ∧ va_AO RX8 s ∧ va_AO RX10 s ∧ va_Nw (.methodLinkNest RX11 12 yX9_init "LadderLand") s ∧ va_Nw (.methodLinkNest RX11 63 yX0_init "LadderLand") s
set_option maxHeartbeats 8000000 in
set_option maxRecDepth 100000 in
def Z11 (a0 : Nat) (z13 z14 : Nat → Int32) : va_W → List (ClassId × FieldType) → Prop := fun w t => ∃ (R : va_W) (T : List (ClassId × FieldType)) (q1 q2 q3 ql qt qlr qrr qn qnw qh qw qo qp qsw qs : Nat) (cR cI cP : ClassId) (im pst : Nat → Option Nat) (Ll Lt Llr Lrr Ln Lnw Lh Low Lo Lp Lsw Ls : List Nat) (yl yt ylr yrr yn ynw yh yow yo yp ysw ys : Nat → ClassId) (A1 : Nat → Nat → Nat) (C1 : Nat → Nat → ClassId) (A2 : Nat → Nat → Nat) (C2 : Nat → Nat → ClassId) (A3 : Nat → Nat → Nat) (C3 : Nat → Nat → ClassId), w = cLL (adOf a0 [q1, q2, q3]) (cyOf [cR, cI, cP]) qt qlr qrr (fun _ => none) 0 qn im pst 0 0 qh qo qp qs ++ R ∧ t = T ∧ (∀ k, k < 4 → im k = some (A1 k 0)) ∧ (∀ k, k < 20 → pst k = some (A3 k 0)) ∧ R = [] ++ (cLd (adOf ql Ll) yl 0 0 0 z13 z14 (fun _ => (0 : Int32)) (fun _ => (0 : Int32)) (fun _ => (0 : Int32)) (fun _ => (0 : Int32))) ++ (cTp (adOf qt Lt) yt (fun _ => (0 : Int32)) 0 0 0 0 0 0) ++ (cLR (adOf qlr Llr) ylr qt) ++ (cRR (adOf qrr Lrr) yrr qt (fun _ => (0 : Int32)) (fun _ => (0 : Int32)) (fun _ => (0 : Int32)) 0 0 0) ++ (kSt ql (adOf qn Ln) yn (adOf qnw Lnw) ynw) ++ ((List.range 4).flatMap (fun k => kSt ql (A1 k) (C1 k) (A2 k) (C2 k))) ++ ((List.range 20).flatMap (fun k => kWo ql (A3 k) (C3 k))) ++ (cH (adOf qh Lh) yh (-1) (fun _ => (0 : Int32)) (fun _ => (0 : Int32)) (fun _ => (0 : Int64))) ++ (kWo ql (adOf qw Low) yow) ++ (cO (adOf qo Lo) yo 0 0 0 0 0 0 0 0 0 0 0 qh qw (fun _ => (0 : Int32))) ++ (cPt qp (adOf qp Lp) yp qnw 0 0 (fun _ => (0 : Int32)) 0 (fun _ => (0 : Int32)) 0 0 0 (fun _ => (0 : Int32)) (fun _ => (0 : Int32)) (fun _ => (0 : Int32)) (fun _ => (0 : Int32)) (fun _ => (0 : Int32))) ++ (kWo ql (adOf qsw Lsw) ysw) ++ (cSg (adOf qs Ls) ys 0 qsw) ∧ T = ([] : List (ClassId × FieldType)) ++ [(yl 1, .int), (yl 2, .int), (yl 3, .int), (yl 4, .int), (yl 5, .int), (yl 6, .int)] ++ [(yt 1, .int)] ++ [] ++ [(yrr 1, .int), (yrr 2, .int), (yrr 3, .int)] ++ [(cR, FieldType.object "LadderLand$Rule")] ++ [(yn 1, .int), (yn 2, .int), (yn 3, .int), (ynw 1, .int), (ynw 2, .int), (ynw 3, .int), (ynw 4, .int), (ynw 5, .int)] ++ [(cI, FieldType.object "LadderLand$State")] ++ (List.range 4).flatMap (fun k => kSt_t (C1 k) (C2 k)) ++ [(cP, FieldType.object "LadderLand$World")] ++ (List.range 20).flatMap (fun k => kWo_t (C3 k)) ++ [(yh 1, .int), (yh 2, .int), (yh 3, .long)] ++ [(yow 1, .int), (yow 2, .int), (yow 3, .int), (yow 4, .int), (yow 5, .int)] ++ [(yo 1, .int)] ++ [(yp 1, .int), (yp 2, .int), (yp 3, .int), (yp 4, .int), (yp 5, .int), (yp 6, .int), (yp 7, .int)] ++ [(ysw 1, .int), (ysw 2, .int), (ysw 3, .int), (ysw 4, .int), (ysw 5, .int)] ++ []
set_option maxHeartbeats 8000000 in
set_option maxRecDepth 100000 in
theorem i11 {l : Launch} {D : va_G} {a0 : Nat} {z13 z14 : Nat → Int32} (hf0 : fJ7_fill 9 (fun _ => (0 : Int32)) (2 : Int32) = some z13) (hf1 : fJ7_fill 9 (fun _ => (0 : Int32)) (200 : Int32) = some z14) : MetC l yX11_init cX11_init 3 rm_i11 D [] [(a0, .inr (11, [.null, .null, .null, .null, .int 0, .null, .null, .null, .int 0, .int 0, .null, .null, .null, .null]))] [.ref a0] Ev11 240 2600 (Z11 a0 z13 z14) := by
  refine metC_of (own := RX11) rfl (by decide) (Nat.le_of_ble_eq_true rfl) ?_
  intro p e s m args below meth c A Q ls S hK hA hP hD hS hl hEv hin hret
  obtain ⟨hx, hb, hml, hown, hts⟩ := id S
  replace hl : lv_has ls 3 [(0, .ref a0)] := hl
  generalize hH : s.heap = H at hP ⊢
  replace hS : va_S A s.heap H [] := by rw [← hH]; exact hS
  generalize hlo : ([] : List Loc) = locs at hS ⊢
  obtain ⟨R0, hR0⟩ : ∃ X : va_W, X = [] := ⟨_, rfl⟩
  obtain ⟨T0, hT0⟩ : ∃ X : List (ClassId × FieldType), X = [] := ⟨_, rfl⟩
  replace hK : va_K D vwCl T0 s := by rw [hT0]; exact hK
  replace hP : va_P D vwCl ([(a0, .inr (11, [.null, .null, .null, .null, .int 0, .null, .null, .null, .int 0, .int 0, .null, .null, .null, .null]))] ++ R0) H := by rw [hR0]; exact hP
  replace hD : va_D A ([(a0, .inr (11, [.null, .null, .null, .null, .int 0, .null, .null, .null, .int 0, .int 0, .null, .null, .null, .null]))] ++ R0) := by rw [hR0]; exact hD
  refine lv_aload_n hx hb dX11_init_0 rfl (lv_at hl 0 rfl) ?_
  refine W.objInit hx hb hown (hts _ mw_1_9) (hts _ mw_1_10) (hts _ mw_1_11) rfl (by rw [hml]; exact hl.1) rfl dX11_init_1 (Nat.le_of_ble_eq_true rfl) (Nat.le_of_ble_eq_true rfl) ?_
  refine W.eq (g2 := F0 m 4 ls []) rfl ?_
  refine va_new (ci := 1) (fs := [.int 0, .int 0, .int 0, .null, .null, .null, .null, .null, .null]) (C := RX1) (T := TX1) (N := 9) hx hb hts inlX1 tyX1 tyX1_ok hown (hts _ mw_1_12) (hts _ mw_1_13) (hts _ mw_1_14) hK hP hD hS hA rfl (fun j hj => by rcases (show j = 0 ∨ j = 1 ∨ j = 2 ∨ j = 3 ∨ j = 4 ∨ j = 5 ∨ j = 6 ∨ j = 7 ∨ j = 8 by omega) with rfl | rfl | rfl | rfl | rfl | rfl | rfl | rfl | rfl <;> rfl) (Nat.le_of_ble_eq_true rfl) (Nat.le_of_ble_eq_true rfl) dX11_init_4 (fun ql H hP hD hS => ?_)
  replace hP : va_P D vwCl (([(a0, .inr (11, [.null, .null, .null, .null, .int 0, .null, .null, .null, .int 0, .int 0, .null, .null, .null, .null]))] ++ R0) ++ [(ql, .inr (1, [.int 0, .int 0, .int 0, .null, .null, .null, .null, .null, .null]))]) H := hP
  replace hD : va_D A (([(a0, .inr (11, [.null, .null, .null, .null, .int 0, .null, .null, .null, .int 0, .int 0, .null, .null, .null, .null]))] ++ R0) ++ [(ql, .inr (1, [.int 0, .int 0, .int 0, .null, .null, .null, .null, .null, .null]))]) := hD
  refine W.widen (k := 1) (n := 9) (Nat.le_refl _) (Nat.le_refl _) ?_
  refine lv_dup hx hb dX11_init_7 rfl ?_
  refine mIb (wr := [(a0, .inr (11, [.null, .null, .null, .null, .int 0, .null, .null, .null, .int 0, .int 0, .null, .null, .null, .null]))] ++ R0) (wc := [(ql, .inr (1, [.int 0, .int 0, .int 0, .null, .null, .null, .null, .null, .null]))]) (As := []) (rest := [.ref ql]) S hK hP hD hS hA (i1 (l := l) (D := D) hf0 hf1) mw_3_9 mw_1_14 mw_3_7 mw_3_8 rfl rfl rfl hd_i1_init ⟨Nat.le_of_ble_eq_true rfl, Nat.le_of_ble_eq_true rfl⟩ rfl hl.1 rfl (Nat.le_of_ble_eq_true rfl) dX11_init_8 ⟨Nat.le_of_ble_eq_true rfl, Nat.le_of_ble_eq_true rfl⟩ (fun w1 t1 H locs hZ hK hP hD hS => ?_)
  obtain ⟨Ll, yl, hZ1, hZ2⟩ := hZ
  obtain ⟨T1, hT1⟩ : ∃ X, X = T0 ++ t1 := ⟨_, rfl⟩
  rw [← hT1] at hK
  rw [hZ2] at hT1
  clear hZ2
  refine W.widen (k := 7) (n := 43) (Nat.le_refl _) (Nat.le_refl _) ?_
  obtain ⟨R1, hR1⟩ : ∃ X, X = R0 ++ w1 := ⟨_, rfl⟩
  replace hP : va_P D vwCl ([(a0, .inr (11, [.null, .null, .null, .null, .int 0, .null, .null, .null, .int 0, .int 0, .null, .null, .null, .null]))] ++ R1) H := by rw [hR1, ← List.append_assoc]; exact hP
  replace hD : va_D A ([(a0, .inr (11, [.null, .null, .null, .null, .int 0, .null, .null, .null, .int 0, .int 0, .null, .null, .null, .null]))] ++ R1) := by rw [hR1, ← List.append_assoc]; exact hD
  rw [hZ1] at hR1
  clear hZ1
  refine lv_astore_n (lv' := [(1, .ref ql), (0, .ref a0)]) hx hb dX11_init_11 rfl hl (by decide) rfl (fun ls hl => ?_)
  refine lv_aload_n hx hb dX11_init_12 rfl (lv_at hl 1 rfl) ?_
  refine va_new (ci := 9) (fs := [.null, .int 0, .int 0, .int 0, .int 0, .int 0, .int 0]) (C := RX9) (T := TX9) (N := 7) hx hb hts inlX9 tyX9 tyX9_ok hown (hts _ mw_1_15) (hts _ mw_1_16) (hts _ mw_1_17) hK hP hD hS hA rfl (fun j hj => by rcases (show j = 0 ∨ j = 1 ∨ j = 2 ∨ j = 3 ∨ j = 4 ∨ j = 5 ∨ j = 6 by omega) with rfl | rfl | rfl | rfl | rfl | rfl | rfl <;> rfl) (Nat.le_of_ble_eq_true rfl) (Nat.le_of_ble_eq_true rfl) dX11_init_13 (fun qt H hP hD hS => ?_)
  replace hP : va_P D vwCl (([(a0, .inr (11, [.null, .null, .null, .null, .int 0, .null, .null, .null, .int 0, .int 0, .null, .null, .null, .null]))] ++ R1) ++ [(qt, .inr (9, [.null, .int 0, .int 0, .int 0, .int 0, .int 0, .int 0]))]) H := hP
  replace hD : va_D A (([(a0, .inr (11, [.null, .null, .null, .null, .int 0, .null, .null, .null, .int 0, .int 0, .null, .null, .null, .null]))] ++ R1) ++ [(qt, .inr (9, [.null, .int 0, .int 0, .int 0, .int 0, .int 0, .int 0]))]) := hD
  refine W.widen (k := 8) (n := 50) (Nat.le_refl _) (Nat.le_refl _) ?_
  refine lv_dup hx hb dX11_init_16 rfl ?_
  refine mINb (wr := [(a0, .inr (11, [.null, .null, .null, .null, .int 0, .null, .null, .null, .int 0, .int 0, .null, .null, .null, .null]))] ++ R1) (wc := [(qt, .inr (9, [.null, .int 0, .int 0, .int 0, .int 0, .int 0, .int 0]))]) (As := []) (rest := [.ref qt, .ref a0]) S hK hP hD hS hA (i9 (l := l) (D := D)) mw_3_23 mw_1_17 hEv.2.2.2.1 mw_3_22 rfl rfl rfl hd_i9_init ⟨Nat.le_of_ble_eq_true rfl, Nat.le_of_ble_eq_true rfl⟩ rfl hl.1 rfl (Nat.le_of_ble_eq_true rfl) dX11_init_17 ⟨Nat.le_of_ble_eq_true rfl, Nat.le_of_ble_eq_true rfl⟩ (fun w1 t1 H locs hZ hK hP hD hS => ?_)
  obtain ⟨Lt, yt, hZ1, hZ2⟩ := hZ
  obtain ⟨T2, hT2⟩ : ∃ X, X = T1 ++ t1 := ⟨_, rfl⟩
  rw [← hT2] at hK
  rw [hZ2] at hT2
  clear hZ2
  refine W.widen (k := 9) (n := 450) (Nat.le_refl _) (Nat.le_refl _) ?_
  obtain ⟨R2, hR2⟩ : ∃ X, X = R1 ++ w1 := ⟨_, rfl⟩
  replace hP : va_P D vwCl ([(a0, .inr (11, [.null, .null, .null, .null, .int 0, .null, .null, .null, .int 0, .int 0, .null, .null, .null, .null]))] ++ R2) H := by rw [hR2, ← List.append_assoc]; exact hP
  replace hD : va_D A ([(a0, .inr (11, [.null, .null, .null, .null, .int 0, .null, .null, .null, .int 0, .int 0, .null, .null, .null, .null]))] ++ R2) := by rw [hR2, ← List.append_assoc]; exact hD
  rw [hZ1] at hR2
  clear hZ1
  refine va_putF (ci := 11) (v := .ref qt) (ty := (.object "LadderLand$Tape")) (C := RX11) (T := TX11) (N := 14) hx hb hts inlX11 tyX11 tyX11_ok nmX11 hown hK hP hD hS 0 rfl rfl 0 (by decide) (hts _ mw_1_18) (fun _ h9 => h9) rfl hin rfl (by decide +kernel) rfl rfl (Nat.le_of_ble_eq_true rfl) dX11_init_20 (fun H locs hP hD hS => ?_)
  replace hP : va_P D vwCl ([(a0, .inr (11, [.ref qt, .null, .null, .null, .int 0, .null, .null, .null, .int 0, .int 0, .null, .null, .null, .null]))] ++ R2) H := hP
  replace hD : va_D A ([(a0, .inr (11, [.ref qt, .null, .null, .null, .int 0, .null, .null, .null, .int 0, .int 0, .null, .null, .null, .null]))] ++ R2) := hD
  refine lv_aload_n hx hb dX11_init_23 rfl (lv_at hl 1 rfl) ?_
  refine va_new (ci := 2) (fs := [.null]) (C := RX2) (T := TX2) (N := 1) hx hb hts inlX2 tyX2 tyX2_ok hown (hts _ mw_1_19) (hts _ mw_1_20) (hts _ mw_1_21) hK hP hD hS hA rfl (fun j hj => by rcases (show j = 0 by omega) with rfl <;> rfl) (Nat.le_of_ble_eq_true rfl) (Nat.le_of_ble_eq_true rfl) dX11_init_24 (fun qlr H hP hD hS => ?_)
  replace hP : va_P D vwCl (([(a0, .inr (11, [.ref qt, .null, .null, .null, .int 0, .null, .null, .null, .int 0, .int 0, .null, .null, .null, .null]))] ++ R2) ++ [(qlr, .inr (2, [.null]))]) H := hP
  replace hD : va_D A (([(a0, .inr (11, [.ref qt, .null, .null, .null, .int 0, .null, .null, .null, .int 0, .int 0, .null, .null, .null, .null]))] ++ R2) ++ [(qlr, .inr (2, [.null]))]) := hD
  refine W.widen (k := 10) (n := 451) (Nat.le_refl _) (Nat.le_refl _) ?_
  refine lv_dup hx hb dX11_init_27 rfl ?_
  refine lv_aload_n hx hb dX11_init_28 rfl (lv_at hl 1 rfl) ?_
  refine va_get (ci := 11) (v := .ref qt) (C := RX11) (T := TX11) (N := 14) hx hb hts inlX11 hown hK hP 0 rfl rfl 0 (by decide) (hts _ mw_1_18) (fun _ h9 => h9) rfl dX11_init_29 ?_
  refine mIb (wr := [(a0, .inr (11, [.ref qt, .null, .null, .null, .int 0, .null, .null, .null, .int 0, .int 0, .null, .null, .null, .null]))] ++ R2) (wc := [(qlr, .inr (2, [.null]))]) (As := [.ref qt]) (rest := [.ref qlr, .ref a0]) S hK hP hD hS hA (i2 (l := l) (D := D)) mw_4_4 mw_1_21 mw_4_2 mw_4_3 rfl rfl rfl hd_i2_init ⟨Nat.le_of_ble_eq_true rfl, Nat.le_of_ble_eq_true rfl⟩ rfl hl.1 rfl (Nat.le_of_ble_eq_true rfl) dX11_init_32 ⟨Nat.le_of_ble_eq_true rfl, Nat.le_of_ble_eq_true rfl⟩ (fun w1 t1 H locs hZ hK hP hD hS => ?_)
  obtain ⟨Llr, ylr, hZ1, hZ2⟩ := hZ
  obtain ⟨T3, hT3⟩ : ∃ X, X = T2 ++ t1 := ⟨_, rfl⟩
  rw [← hT3] at hK
  rw [hZ2] at hT3
  clear hZ2
  refine W.widen (k := 10) (n := 451) (Nat.le_refl _) (Nat.le_refl _) ?_
  obtain ⟨R3, hR3⟩ : ∃ X, X = R2 ++ w1 := ⟨_, rfl⟩
  replace hP : va_P D vwCl ([(a0, .inr (11, [.ref qt, .null, .null, .null, .int 0, .null, .null, .null, .int 0, .int 0, .null, .null, .null, .null]))] ++ R3) H := by rw [hR3, ← List.append_assoc]; exact hP
  replace hD : va_D A ([(a0, .inr (11, [.ref qt, .null, .null, .null, .int 0, .null, .null, .null, .int 0, .int 0, .null, .null, .null, .null]))] ++ R3) := by rw [hR3, ← List.append_assoc]; exact hD
  rw [hZ1] at hR3
  clear hZ1
  refine va_putF (ci := 11) (v := .ref qlr) (ty := (.object "LadderLand$LadderReader")) (C := RX11) (T := TX11) (N := 14) hx hb hts inlX11 tyX11 tyX11_ok nmX11 hown hK hP hD hS 0 rfl rfl 1 (by decide) (hts _ mw_1_22) (fun _ h9 => h9) rfl hin rfl (by decide +kernel) rfl rfl (Nat.le_of_ble_eq_true rfl) dX11_init_35 (fun H locs hP hD hS => ?_)
  replace hP : va_P D vwCl ([(a0, .inr (11, [.ref qt, .ref qlr, .null, .null, .int 0, .null, .null, .null, .int 0, .int 0, .null, .null, .null, .null]))] ++ R3) H := hP
  replace hD : va_D A ([(a0, .inr (11, [.ref qt, .ref qlr, .null, .null, .int 0, .null, .null, .null, .int 0, .int 0, .null, .null, .null, .null]))] ++ R3) := hD
  refine lv_aload_n hx hb dX11_init_38 rfl (lv_at hl 1 rfl) ?_
  refine va_new (ci := 6) (fs := [.null, .null, .null, .null, .int 0, .int 0, .int 0]) (C := RX6) (T := TX6) (N := 7) hx hb hts inlX6 tyX6 tyX6_ok hown (hts _ mw_1_23) (hts _ mw_2_0) (hts _ mw_2_1) hK hP hD hS hA rfl (fun j hj => by rcases (show j = 0 ∨ j = 1 ∨ j = 2 ∨ j = 3 ∨ j = 4 ∨ j = 5 ∨ j = 6 by omega) with rfl | rfl | rfl | rfl | rfl | rfl | rfl <;> rfl) (Nat.le_of_ble_eq_true rfl) (Nat.le_of_ble_eq_true rfl) dX11_init_39 (fun qrr H hP hD hS => ?_)
  replace hP : va_P D vwCl (([(a0, .inr (11, [.ref qt, .ref qlr, .null, .null, .int 0, .null, .null, .null, .int 0, .int 0, .null, .null, .null, .null]))] ++ R3) ++ [(qrr, .inr (6, [.null, .null, .null, .null, .int 0, .int 0, .int 0]))]) H := hP
  replace hD : va_D A (([(a0, .inr (11, [.ref qt, .ref qlr, .null, .null, .int 0, .null, .null, .null, .int 0, .int 0, .null, .null, .null, .null]))] ++ R3) ++ [(qrr, .inr (6, [.null, .null, .null, .null, .int 0, .int 0, .int 0]))]) := hD
  refine W.widen (k := 11) (n := 458) (Nat.le_refl _) (Nat.le_refl _) ?_
  refine lv_dup hx hb dX11_init_42 rfl ?_
  refine lv_aload_n hx hb dX11_init_43 rfl (lv_at hl 1 rfl) ?_
  refine va_get (ci := 11) (v := .ref qt) (C := RX11) (T := TX11) (N := 14) hx hb hts inlX11 hown hK hP 0 rfl rfl 0 (by decide) (hts _ mw_1_18) (fun _ h9 => h9) rfl dX11_init_44 ?_
  refine mIb (wr := [(a0, .inr (11, [.ref qt, .ref qlr, .null, .null, .int 0, .null, .null, .null, .int 0, .int 0, .null, .null, .null, .null]))] ++ R3) (wc := [(qrr, .inr (6, [.null, .null, .null, .null, .int 0, .int 0, .int 0]))]) (As := [.ref qt]) (rest := [.ref qrr, .ref a0]) S hK hP hD hS hA (i6 (l := l) (D := D)) mw_4_9 mw_2_1 mw_4_7 mw_4_8 rfl rfl rfl hd_i6_init ⟨Nat.le_of_ble_eq_true rfl, Nat.le_of_ble_eq_true rfl⟩ rfl hl.1 rfl (Nat.le_of_ble_eq_true rfl) dX11_init_47 ⟨Nat.le_of_ble_eq_true rfl, Nat.le_of_ble_eq_true rfl⟩ (fun w1 t1 H locs hZ hK hP hD hS => ?_)
  obtain ⟨Lrr, yrr, hZ1, hZ2⟩ := hZ
  obtain ⟨T4, hT4⟩ : ∃ X, X = T3 ++ t1 := ⟨_, rfl⟩
  rw [← hT4] at hK
  rw [hZ2] at hT4
  clear hZ2
  refine W.widen (k := 14) (n := 882) (Nat.le_refl _) (Nat.le_refl _) ?_
  obtain ⟨R4, hR4⟩ : ∃ X, X = R3 ++ w1 := ⟨_, rfl⟩
  replace hP : va_P D vwCl ([(a0, .inr (11, [.ref qt, .ref qlr, .null, .null, .int 0, .null, .null, .null, .int 0, .int 0, .null, .null, .null, .null]))] ++ R4) H := by rw [hR4, ← List.append_assoc]; exact hP
  replace hD : va_D A ([(a0, .inr (11, [.ref qt, .ref qlr, .null, .null, .int 0, .null, .null, .null, .int 0, .int 0, .null, .null, .null, .null]))] ++ R4) := by rw [hR4, ← List.append_assoc]; exact hD
  rw [hZ1] at hR4
  clear hZ1
  refine va_putF (ci := 11) (v := .ref qrr) (ty := (.object "LadderLand$RuleReader")) (C := RX11) (T := TX11) (N := 14) hx hb hts inlX11 tyX11 tyX11_ok nmX11 hown hK hP hD hS 0 rfl rfl 2 (by decide) (hts _ mw_2_2) (fun _ h9 => h9) rfl hin rfl (by decide +kernel) rfl rfl (Nat.le_of_ble_eq_true rfl) dX11_init_50 (fun H locs hP hD hS => ?_)
  replace hP : va_P D vwCl ([(a0, .inr (11, [.ref qt, .ref qlr, .ref qrr, .null, .int 0, .null, .null, .null, .int 0, .int 0, .null, .null, .null, .null]))] ++ R4) H := hP
  replace hD : va_D A ([(a0, .inr (11, [.ref qt, .ref qlr, .ref qrr, .null, .int 0, .null, .null, .null, .int 0, .int 0, .null, .null, .null, .null]))] ++ R4) := hD
  refine lv_aload_n hx hb dX11_init_53 rfl (lv_at hl 1 rfl) ?_
  refine lv_bipush (v := (6 : Int32)) hx hb dX11_init_54 (by decide) ?_
  refine va_newq (N' := 6) hx hb hown (hts _ mw_2_3) hEv.1 hK hP hD hS hA (by decide) rfl (Nat.le_of_ble_eq_true rfl) (Nat.le_of_ble_eq_true rfl) (Nat.le_of_ble_eq_true rfl) dX11_init_56 (fun q1 cR H hK hP hD hS => ?_)
  obtain ⟨T5, hT5⟩ : ∃ X, X = T4 ++ [(cR, FieldType.object "LadderLand$Rule")] := ⟨_, rfl⟩
  replace hK : va_K D vwCl T5 s := by rw [hT5]; exact hK
  replace hP : va_P D vwCl ([(a0, .inr (11, [.ref qt, .ref qlr, .ref qrr, .null, .int 0, .null, .null, .null, .int 0, .int 0, .null, .null, .null, .null])), (q1, .inl (cR, 6, .inr (.inr (.inr (.inr (fun _ => (none : Option Nat)))))))] ++ R4) H := vP_perm (ws := ([(a0, .inr (11, [.ref qt, .ref qlr, .ref qrr, .null, .int 0, .null, .null, .null, .int 0, .int 0, .null, .null, .null, .null]))] ++ R4) ++ [(q1, .inl (cR, 6, .inr (.inr (.inr (.inr (fun _ => (none : Option Nat)))))))]) hP (pm3 _ _ _)
  replace hD : va_D A ([(a0, .inr (11, [.ref qt, .ref qlr, .ref qrr, .null, .int 0, .null, .null, .null, .int 0, .int 0, .null, .null, .null, .null])), (q1, .inl (cR, 6, .inr (.inr (.inr (.inr (fun _ => (none : Option Nat)))))))] ++ R4) := vD_perm (ws := ([(a0, .inr (11, [.ref qt, .ref qlr, .ref qrr, .null, .int 0, .null, .null, .null, .int 0, .int 0, .null, .null, .null, .null]))] ++ R4) ++ [(q1, .inl (cR, 6, .inr (.inr (.inr (.inr (fun _ => (none : Option Nat)))))))]) hD (pm3 _ _ _)
  refine W.widen (k := 15) (n := 888) (Nat.le_refl _) (Nat.le_refl _) ?_
  refine va_putF (ci := 11) (v := .ref q1) (ty := (.array (.object "LadderLand$Rule"))) (C := RX11) (T := TX11) (N := 14) hx hb hts inlX11 tyX11 tyX11_ok nmX11 hown hK hP hD hS 0 rfl rfl 3 (by decide) (hts _ mw_2_4) (fun _ h9 => h9) rfl hin rfl (by decide +kernel) rfl rfl (Nat.le_of_ble_eq_true rfl) dX11_init_59 (fun H locs hP hD hS => ?_)
  replace hP : va_P D vwCl ([(a0, .inr (11, [.ref qt, .ref qlr, .ref qrr, .ref q1, .int 0, .null, .null, .null, .int 0, .int 0, .null, .null, .null, .null])), (q1, .inl (cR, 6, .inr (.inr (.inr (.inr (fun _ => (none : Option Nat)))))))] ++ R4) H := hP
  replace hD : va_D A ([(a0, .inr (11, [.ref qt, .ref qlr, .ref qrr, .ref q1, .int 0, .null, .null, .null, .int 0, .int 0, .null, .null, .null, .null])), (q1, .inl (cR, 6, .inr (.inr (.inr (.inr (fun _ => (none : Option Nat)))))))] ++ R4) := hD
  refine lv_aload_n hx hb dX11_init_62 rfl (lv_at hl 1 rfl) ?_
  refine va_new (ci := 8) (fs := [.null, .int 0, .int 0, .int 0, .null, .null, .null, .int 0]) (C := RX8) (T := TX8) (N := 8) hx hb hts inlX8 tyX8 tyX8_ok hown (hts _ mw_2_5) (hts _ mw_2_6) (hts _ mw_2_7) hK hP hD hS hA rfl (fun j hj => by rcases (show j = 0 ∨ j = 1 ∨ j = 2 ∨ j = 3 ∨ j = 4 ∨ j = 5 ∨ j = 6 ∨ j = 7 by omega) with rfl | rfl | rfl | rfl | rfl | rfl | rfl | rfl <;> rfl) (Nat.le_of_ble_eq_true rfl) (Nat.le_of_ble_eq_true rfl) dX11_init_63 (fun qn H hP hD hS => ?_)
  replace hP : va_P D vwCl (([(a0, .inr (11, [.ref qt, .ref qlr, .ref qrr, .ref q1, .int 0, .null, .null, .null, .int 0, .int 0, .null, .null, .null, .null])), (q1, .inl (cR, 6, .inr (.inr (.inr (.inr (fun _ => (none : Option Nat)))))))] ++ R4) ++ [(qn, .inr (8, [.null, .int 0, .int 0, .int 0, .null, .null, .null, .int 0]))]) H := hP
  replace hD : va_D A (([(a0, .inr (11, [.ref qt, .ref qlr, .ref qrr, .ref q1, .int 0, .null, .null, .null, .int 0, .int 0, .null, .null, .null, .null])), (q1, .inl (cR, 6, .inr (.inr (.inr (.inr (fun _ => (none : Option Nat)))))))] ++ R4) ++ [(qn, .inr (8, [.null, .int 0, .int 0, .int 0, .null, .null, .null, .int 0]))]) := hD
  refine W.widen (k := 16) (n := 896) (Nat.le_refl _) (Nat.le_refl _) ?_
  refine lv_dup hx hb dX11_init_66 rfl ?_
  refine lv_aload_n hx hb dX11_init_67 rfl (lv_at hl 0 rfl) ?_
  refine mIb (wr := [(a0, .inr (11, [.ref qt, .ref qlr, .ref qrr, .ref q1, .int 0, .null, .null, .null, .int 0, .int 0, .null, .null, .null, .null])), (q1, .inl (cR, 6, .inr (.inr (.inr (.inr (fun _ => (none : Option Nat)))))))] ++ R4) (wc := [(qn, .inr (8, [.null, .int 0, .int 0, .int 0, .null, .null, .null, .int 0]))]) (As := [.ref ql]) (rest := [.ref qn, .ref a0]) S hK hP hD hS hA (i8 (l := l) (D := D)) mw_4_17 mw_2_7 mw_4_15 mw_4_16 rfl rfl rfl hd_i8_init ⟨Nat.le_of_ble_eq_true rfl, Nat.le_of_ble_eq_true rfl⟩ rfl hl.1 rfl (Nat.le_of_ble_eq_true rfl) dX11_init_68 ⟨Nat.le_of_ble_eq_true rfl, Nat.le_of_ble_eq_true rfl⟩ (fun w1 t1 H locs hZ hK hP hD hS => ?_)
  obtain ⟨Ln, yn, qnw, Lnw, ynw, hZ1, hZ2⟩ := hZ
  obtain ⟨T6, hT6⟩ : ∃ X, X = T5 ++ t1 := ⟨_, rfl⟩
  rw [← hT6] at hK
  rw [hZ2] at hT6
  clear hZ2
  refine W.widen (k := 25) (n := 959) (Nat.le_refl _) (Nat.le_refl _) ?_
  obtain ⟨R5, hR5⟩ : ∃ X, X = R4 ++ w1 := ⟨_, rfl⟩
  replace hP : va_P D vwCl ([(a0, .inr (11, [.ref qt, .ref qlr, .ref qrr, .ref q1, .int 0, .null, .null, .null, .int 0, .int 0, .null, .null, .null, .null])), (q1, .inl (cR, 6, .inr (.inr (.inr (.inr (fun _ => (none : Option Nat)))))))] ++ R5) H := by rw [hR5, ← List.append_assoc]; exact hP
  replace hD : va_D A ([(a0, .inr (11, [.ref qt, .ref qlr, .ref qrr, .ref q1, .int 0, .null, .null, .null, .int 0, .int 0, .null, .null, .null, .null])), (q1, .inl (cR, 6, .inr (.inr (.inr (.inr (fun _ => (none : Option Nat)))))))] ++ R5) := by rw [hR5, ← List.append_assoc]; exact hD
  rw [hZ1] at hR5
  clear hZ1
  refine va_putF (ci := 11) (v := .ref qn) (ty := (.object "LadderLand$State")) (C := RX11) (T := TX11) (N := 14) hx hb hts inlX11 tyX11 tyX11_ok nmX11 hown hK hP hD hS 0 rfl rfl 5 (by decide) (hts _ mw_2_8) (fun _ h9 => h9) rfl hin rfl (by decide +kernel) rfl rfl (Nat.le_of_ble_eq_true rfl) dX11_init_71 (fun H locs hP hD hS => ?_)
  replace hP : va_P D vwCl ([(a0, .inr (11, [.ref qt, .ref qlr, .ref qrr, .ref q1, .int 0, .ref qn, .null, .null, .int 0, .int 0, .null, .null, .null, .null])), (q1, .inl (cR, 6, .inr (.inr (.inr (.inr (fun _ => (none : Option Nat)))))))] ++ R5) H := hP
  replace hD : va_D A ([(a0, .inr (11, [.ref qt, .ref qlr, .ref qrr, .ref q1, .int 0, .ref qn, .null, .null, .int 0, .int 0, .null, .null, .null, .null])), (q1, .inl (cR, 6, .inr (.inr (.inr (.inr (fun _ => (none : Option Nat)))))))] ++ R5) := hD
  refine lv_aload_n hx hb dX11_init_74 rfl (lv_at hl 1 rfl) ?_
  refine lv_iconst (v := (4 : Int32)) hx hb dX11_init_75 (by decide) ?_
  refine va_newq (N' := 4) hx hb hown (hts _ mw_2_5) hEv.2.1 hK hP hD hS hA (by decide) rfl (Nat.le_of_ble_eq_true rfl) (Nat.le_of_ble_eq_true rfl) (Nat.le_of_ble_eq_true rfl) dX11_init_76 (fun q2 cI H hK hP hD hS => ?_)
  obtain ⟨T7, hT7⟩ : ∃ X, X = T6 ++ [(cI, FieldType.object "LadderLand$State")] := ⟨_, rfl⟩
  replace hK : va_K D vwCl T7 s := by rw [hT7]; exact hK
  replace hP : va_P D vwCl ([(a0, .inr (11, [.ref qt, .ref qlr, .ref qrr, .ref q1, .int 0, .ref qn, .null, .null, .int 0, .int 0, .null, .null, .null, .null])), (q1, .inl (cR, 6, .inr (.inr (.inr (.inr (fun _ => (none : Option Nat))))))), (q2, .inl (cI, 4, .inr (.inr (.inr (.inr (fun _ => (none : Option Nat)))))))] ++ R5) H := vP_perm (ws := ([(a0, .inr (11, [.ref qt, .ref qlr, .ref qrr, .ref q1, .int 0, .ref qn, .null, .null, .int 0, .int 0, .null, .null, .null, .null])), (q1, .inl (cR, 6, .inr (.inr (.inr (.inr (fun _ => (none : Option Nat)))))))] ++ R5) ++ [(q2, .inl (cI, 4, .inr (.inr (.inr (.inr (fun _ => (none : Option Nat)))))))]) hP (pm3 _ _ _)
  replace hD : va_D A ([(a0, .inr (11, [.ref qt, .ref qlr, .ref qrr, .ref q1, .int 0, .ref qn, .null, .null, .int 0, .int 0, .null, .null, .null, .null])), (q1, .inl (cR, 6, .inr (.inr (.inr (.inr (fun _ => (none : Option Nat))))))), (q2, .inl (cI, 4, .inr (.inr (.inr (.inr (fun _ => (none : Option Nat)))))))] ++ R5) := vD_perm (ws := ([(a0, .inr (11, [.ref qt, .ref qlr, .ref qrr, .ref q1, .int 0, .ref qn, .null, .null, .int 0, .int 0, .null, .null, .null, .null])), (q1, .inl (cR, 6, .inr (.inr (.inr (.inr (fun _ => (none : Option Nat)))))))] ++ R5) ++ [(q2, .inl (cI, 4, .inr (.inr (.inr (.inr (fun _ => (none : Option Nat)))))))]) hD (pm3 _ _ _)
  refine W.widen (k := 26) (n := 963) (Nat.le_refl _) (Nat.le_refl _) ?_
  refine va_putF (ci := 11) (v := .ref q2) (ty := (.array (.object "LadderLand$State"))) (C := RX11) (T := TX11) (N := 14) hx hb hts inlX11 tyX11 tyX11_ok nmX11 hown hK hP hD hS 0 rfl rfl 6 (by decide) (hts _ mw_2_9) (fun _ h9 => h9) rfl hin rfl (by decide +kernel) rfl rfl (Nat.le_of_ble_eq_true rfl) dX11_init_79 (fun H locs hP hD hS => ?_)
  replace hP : va_P D vwCl ([(a0, .inr (11, [.ref qt, .ref qlr, .ref qrr, .ref q1, .int 0, .ref qn, .ref q2, .null, .int 0, .int 0, .null, .null, .null, .null])), (q1, .inl (cR, 6, .inr (.inr (.inr (.inr (fun _ => (none : Option Nat))))))), (q2, .inl (cI, 4, .inr (.inr (.inr (.inr (fun _ => (none : Option Nat)))))))] ++ R5) H := hP
  replace hD : va_D A ([(a0, .inr (11, [.ref qt, .ref qlr, .ref qrr, .ref q1, .int 0, .ref qn, .ref q2, .null, .int 0, .int 0, .null, .null, .null, .null])), (q1, .inl (cR, 6, .inr (.inr (.inr (.inr (fun _ => (none : Option Nat))))))), (q2, .inl (cI, 4, .inr (.inr (.inr (.inr (fun _ => (none : Option Nat)))))))] ++ R5) := hD
  refine lv_iconst (v := (0 : Int32)) hx hb dX11_init_82 (by decide) ?_
  refine lv_istore_n (lv' := [(2, .int (0 : Int32)), (1, .ref ql), (0, .ref a0)]) hx hb dX11_init_83 rfl hl (by decide) rfl (fun ls hl => ?_)
  replace hl : lv_has ls 3 [(2, .int (nn 0)), (0, .ref a0), (1, .ref ql)] := lv_sub hl [0, 2, 1] rfl
  refine i11_images (c0 := 26) (s0 := 963) (R0 := R5) (T0 := T7) S hA rfl (by rw [hT7]; exact List.mem_append_right _ List.mem_cons_self) (Nat.le_of_ble_eq_true rfl) (Nat.le_of_ble_eq_true rfl) ?_ 4 0 rfl ls H locs (fun _ => none) (fun _ _ => 0) (fun _ _ => 0) (fun _ _ => 0) (fun _ _ => 0) hl (fun k hk => absurd hk (Nat.not_lt_zero _)) (by rw [List.range_zero, List.flatMap_nil, List.append_nil]; exact hK) (by rw [List.range_zero, List.flatMap_nil, List.append_nil]; exact hP) (by rw [List.range_zero, List.flatMap_nil, List.append_nil]; exact hD) hS
  intro ls H locs im A1 C1 A2 C2 hl him hK hP hD hS
  obtain ⟨R6, hR6⟩ : ∃ X, X = R5 ++ (List.range 4).flatMap (fun k => kSt ql (A1 k) (C1 k) (A2 k) (C2 k)) := ⟨_, rfl⟩
  obtain ⟨T8, hT8⟩ : ∃ X, X = T7 ++ (List.range 4).flatMap (fun k => kSt_t (C1 k) (C2 k)) := ⟨_, rfl⟩
  rw [← hT8] at hK
  replace hP : va_P D vwCl ([(a0, .inr (11, [.ref qt, .ref qlr, .ref qrr, .ref q1, .int 0, .ref qn, .ref q2, .null, .int 0, .int 0, .null, .null, .null, .null])), (q1, .inl (cR, 6, .inr (.inr (.inr (.inr (fun _ => (none : Option Nat))))))), (q2, .inl (cI, 4, .inr (.inr (.inr (.inr im)))))] ++ R6) H := by rw [hR6]; exact hP
  replace hD : va_D A ([(a0, .inr (11, [.ref qt, .ref qlr, .ref qrr, .ref q1, .int 0, .ref qn, .ref q2, .null, .int 0, .int 0, .null, .null, .null, .null])), (q1, .inl (cR, 6, .inr (.inr (.inr (.inr (fun _ => (none : Option Nat))))))), (q2, .inl (cI, 4, .inr (.inr (.inr (.inr im)))))] ++ R6) := by rw [hR6]; exact hD
  refine W.widen (k := 66) (n := 1247) (Nat.le_refl _) (Nat.le_refl _) ?_
  refine lv_aload_n hx hb dX11_init_109 rfl (lv_at hl 1 rfl) ?_
  refine lv_bipush (v := (20 : Int32)) hx hb dX11_init_110 (by decide) ?_
  refine va_newq (N' := 20) hx hb hown (hts _ mw_2_10) hEv.2.2.1 hK hP hD hS hA (by decide) rfl (Nat.le_of_ble_eq_true rfl) (Nat.le_of_ble_eq_true rfl) (Nat.le_of_ble_eq_true rfl) dX11_init_112 (fun q3 cP H hK hP hD hS => ?_)
  obtain ⟨T9, hT9⟩ : ∃ X, X = T8 ++ [(cP, FieldType.object "LadderLand$World")] := ⟨_, rfl⟩
  replace hK : va_K D vwCl T9 s := by rw [hT9]; exact hK
  replace hP : va_P D vwCl ([(a0, .inr (11, [.ref qt, .ref qlr, .ref qrr, .ref q1, .int 0, .ref qn, .ref q2, .null, .int 0, .int 0, .null, .null, .null, .null])), (q1, .inl (cR, 6, .inr (.inr (.inr (.inr (fun _ => (none : Option Nat))))))), (q2, .inl (cI, 4, .inr (.inr (.inr (.inr im))))), (q3, .inl (cP, 20, .inr (.inr (.inr (.inr (fun _ => (none : Option Nat)))))))] ++ R6) H := vP_perm (ws := ([(a0, .inr (11, [.ref qt, .ref qlr, .ref qrr, .ref q1, .int 0, .ref qn, .ref q2, .null, .int 0, .int 0, .null, .null, .null, .null])), (q1, .inl (cR, 6, .inr (.inr (.inr (.inr (fun _ => (none : Option Nat))))))), (q2, .inl (cI, 4, .inr (.inr (.inr (.inr im)))))] ++ R6) ++ [(q3, .inl (cP, 20, .inr (.inr (.inr (.inr (fun _ => (none : Option Nat)))))))]) hP (pm3 _ _ _)
  replace hD : va_D A ([(a0, .inr (11, [.ref qt, .ref qlr, .ref qrr, .ref q1, .int 0, .ref qn, .ref q2, .null, .int 0, .int 0, .null, .null, .null, .null])), (q1, .inl (cR, 6, .inr (.inr (.inr (.inr (fun _ => (none : Option Nat))))))), (q2, .inl (cI, 4, .inr (.inr (.inr (.inr im))))), (q3, .inl (cP, 20, .inr (.inr (.inr (.inr (fun _ => (none : Option Nat)))))))] ++ R6) := vD_perm (ws := ([(a0, .inr (11, [.ref qt, .ref qlr, .ref qrr, .ref q1, .int 0, .ref qn, .ref q2, .null, .int 0, .int 0, .null, .null, .null, .null])), (q1, .inl (cR, 6, .inr (.inr (.inr (.inr (fun _ => (none : Option Nat))))))), (q2, .inl (cI, 4, .inr (.inr (.inr (.inr im)))))] ++ R6) ++ [(q3, .inl (cP, 20, .inr (.inr (.inr (.inr (fun _ => (none : Option Nat)))))))]) hD (pm3 _ _ _)
  refine W.widen (k := 67) (n := 1267) (Nat.le_refl _) (Nat.le_refl _) ?_
  refine va_putF (ci := 11) (v := .ref q3) (ty := (.array (.object "LadderLand$World"))) (C := RX11) (T := TX11) (N := 14) hx hb hts inlX11 tyX11 tyX11_ok nmX11 hown hK hP hD hS 0 rfl rfl 7 (by decide) (hts _ mw_2_11) (fun _ h9 => h9) rfl hin rfl (by decide +kernel) rfl rfl (Nat.le_of_ble_eq_true rfl) dX11_init_115 (fun H locs hP hD hS => ?_)
  replace hP : va_P D vwCl ([(a0, .inr (11, [.ref qt, .ref qlr, .ref qrr, .ref q1, .int 0, .ref qn, .ref q2, .ref q3, .int 0, .int 0, .null, .null, .null, .null])), (q1, .inl (cR, 6, .inr (.inr (.inr (.inr (fun _ => (none : Option Nat))))))), (q2, .inl (cI, 4, .inr (.inr (.inr (.inr im))))), (q3, .inl (cP, 20, .inr (.inr (.inr (.inr (fun _ => (none : Option Nat)))))))] ++ R6) H := hP
  replace hD : va_D A ([(a0, .inr (11, [.ref qt, .ref qlr, .ref qrr, .ref q1, .int 0, .ref qn, .ref q2, .ref q3, .int 0, .int 0, .null, .null, .null, .null])), (q1, .inl (cR, 6, .inr (.inr (.inr (.inr (fun _ => (none : Option Nat))))))), (q2, .inl (cI, 4, .inr (.inr (.inr (.inr im))))), (q3, .inl (cP, 20, .inr (.inr (.inr (.inr (fun _ => (none : Option Nat)))))))] ++ R6) := hD
  refine lv_iconst (v := (0 : Int32)) hx hb dX11_init_118 (by decide) ?_
  refine lv_istore_n (lv' := [(2, .int (0 : Int32)), (0, .ref a0), (1, .ref ql)]) hx hb dX11_init_119 rfl hl (by decide) rfl (fun ls hl => ?_)
  replace hl : lv_has ls 3 [(2, .int (nn 0)), (0, .ref a0), (1, .ref ql)] := hl
  refine i11_past (c0 := 67) (s0 := 1267) (R0 := R6) (T0 := T9) S hA rfl (by rw [hT9]; exact List.mem_append_right _ List.mem_cons_self) (Nat.le_of_ble_eq_true rfl) (Nat.le_of_ble_eq_true rfl) ?_ 20 0 rfl ls H locs (fun _ => none) (fun _ _ => 0) (fun _ _ => 0) hl (fun k hk => absurd hk (Nat.not_lt_zero _)) (by rw [List.range_zero, List.flatMap_nil, List.append_nil]; exact hK) (by rw [List.range_zero, List.flatMap_nil, List.append_nil]; exact hP) (by rw [List.range_zero, List.flatMap_nil, List.append_nil]; exact hD) hS
  intro ls H locs pst A3 C3 hl hpst hK hP hD hS
  obtain ⟨R7, hR7⟩ : ∃ X, X = R6 ++ (List.range 20).flatMap (fun k => kWo ql (A3 k) (C3 k)) := ⟨_, rfl⟩
  obtain ⟨T10, hT10⟩ : ∃ X, X = T9 ++ (List.range 20).flatMap (fun k => kWo_t (C3 k)) := ⟨_, rfl⟩
  rw [← hT10] at hK
  replace hP : va_P D vwCl ([(a0, .inr (11, [.ref qt, .ref qlr, .ref qrr, .ref q1, .int 0, .ref qn, .ref q2, .ref q3, .int 0, .int 0, .null, .null, .null, .null])), (q1, .inl (cR, 6, .inr (.inr (.inr (.inr (fun _ => (none : Option Nat))))))), (q2, .inl (cI, 4, .inr (.inr (.inr (.inr im))))), (q3, .inl (cP, 20, .inr (.inr (.inr (.inr pst)))))] ++ R7) H := by rw [hR7]; exact hP
  replace hD : va_D A ([(a0, .inr (11, [.ref qt, .ref qlr, .ref qrr, .ref q1, .int 0, .ref qn, .ref q2, .ref q3, .int 0, .int 0, .null, .null, .null, .null])), (q1, .inl (cR, 6, .inr (.inr (.inr (.inr (fun _ => (none : Option Nat))))))), (q2, .inl (cI, 4, .inr (.inr (.inr (.inr im))))), (q3, .inl (cP, 20, .inr (.inr (.inr (.inr pst)))))] ++ R7) := by rw [hR7]; exact hD
  refine W.widen (k := 187) (n := 1927) (Nat.le_refl _) (Nat.le_refl _) ?_
  refine lv_aload_n hx hb dX11_init_146 rfl (lv_at hl 1 rfl) ?_
  refine va_new (ci := 0) (fs := [.int 0, .null, .null, .null]) (C := RX0) (T := TX0) (N := 4) hx hb hts inlX0 tyX0 tyX0_ok hown (hts _ mw_2_14) (hts _ mw_2_15) (hts _ mw_2_16) hK hP hD hS hA rfl (fun j hj => by rcases (show j = 0 ∨ j = 1 ∨ j = 2 ∨ j = 3 by omega) with rfl | rfl | rfl | rfl <;> rfl) (Nat.le_of_ble_eq_true rfl) (Nat.le_of_ble_eq_true rfl) dX11_init_147 (fun qh H hP hD hS => ?_)
  replace hP : va_P D vwCl (([(a0, .inr (11, [.ref qt, .ref qlr, .ref qrr, .ref q1, .int 0, .ref qn, .ref q2, .ref q3, .int 0, .int 0, .null, .null, .null, .null])), (q1, .inl (cR, 6, .inr (.inr (.inr (.inr (fun _ => (none : Option Nat))))))), (q2, .inl (cI, 4, .inr (.inr (.inr (.inr im))))), (q3, .inl (cP, 20, .inr (.inr (.inr (.inr pst)))))] ++ R7) ++ [(qh, .inr (0, [.int 0, .null, .null, .null]))]) H := hP
  replace hD : va_D A (([(a0, .inr (11, [.ref qt, .ref qlr, .ref qrr, .ref q1, .int 0, .ref qn, .ref q2, .ref q3, .int 0, .int 0, .null, .null, .null, .null])), (q1, .inl (cR, 6, .inr (.inr (.inr (.inr (fun _ => (none : Option Nat))))))), (q2, .inl (cI, 4, .inr (.inr (.inr (.inr im))))), (q3, .inl (cP, 20, .inr (.inr (.inr (.inr pst)))))] ++ R7) ++ [(qh, .inr (0, [.int 0, .null, .null, .null]))]) := hD
  refine W.widen (k := 188) (n := 1931) (Nat.le_refl _) (Nat.le_refl _) ?_
  refine lv_dup hx hb dX11_init_150 rfl ?_
  refine mINb (wr := [(a0, .inr (11, [.ref qt, .ref qlr, .ref qrr, .ref q1, .int 0, .ref qn, .ref q2, .ref q3, .int 0, .int 0, .null, .null, .null, .null])), (q1, .inl (cR, 6, .inr (.inr (.inr (.inr (fun _ => (none : Option Nat))))))), (q2, .inl (cI, 4, .inr (.inr (.inr (.inr im))))), (q3, .inl (cP, 20, .inr (.inr (.inr (.inr pst)))))] ++ R7) (wc := [(qh, .inr (0, [.int 0, .null, .null, .null]))]) (As := []) (rest := [.ref qh, .ref a0]) S hK hP hD hS hA (i0 (l := l) (D := D)) mw_5_13 mw_2_16 hEv.2.2.2.2 mw_5_12 rfl rfl rfl hd_i0_init ⟨Nat.le_of_ble_eq_true rfl, Nat.le_of_ble_eq_true rfl⟩ rfl hl.1 rfl (Nat.le_of_ble_eq_true rfl) dX11_init_151 ⟨Nat.le_of_ble_eq_true rfl, Nat.le_of_ble_eq_true rfl⟩ (fun w1 t1 H locs hZ hK hP hD hS => ?_)
  obtain ⟨Lh, yh, hZ1, hZ2⟩ := hZ
  obtain ⟨T11, hT11⟩ : ∃ X, X = T10 ++ t1 := ⟨_, rfl⟩
  rw [← hT11] at hK
  rw [hZ2] at hT11
  clear hZ2
  refine W.widen (k := 191) (n := 1952) (Nat.le_refl _) (Nat.le_refl _) ?_
  obtain ⟨R8, hR8⟩ : ∃ X, X = R7 ++ w1 := ⟨_, rfl⟩
  replace hP : va_P D vwCl ([(a0, .inr (11, [.ref qt, .ref qlr, .ref qrr, .ref q1, .int 0, .ref qn, .ref q2, .ref q3, .int 0, .int 0, .null, .null, .null, .null])), (q1, .inl (cR, 6, .inr (.inr (.inr (.inr (fun _ => (none : Option Nat))))))), (q2, .inl (cI, 4, .inr (.inr (.inr (.inr im))))), (q3, .inl (cP, 20, .inr (.inr (.inr (.inr pst)))))] ++ R8) H := by rw [hR8, ← List.append_assoc]; exact hP
  replace hD : va_D A ([(a0, .inr (11, [.ref qt, .ref qlr, .ref qrr, .ref q1, .int 0, .ref qn, .ref q2, .ref q3, .int 0, .int 0, .null, .null, .null, .null])), (q1, .inl (cR, 6, .inr (.inr (.inr (.inr (fun _ => (none : Option Nat))))))), (q2, .inl (cI, 4, .inr (.inr (.inr (.inr im))))), (q3, .inl (cP, 20, .inr (.inr (.inr (.inr pst)))))] ++ R8) := by rw [hR8, ← List.append_assoc]; exact hD
  rw [hZ1] at hR8
  clear hZ1
  refine va_putF (ci := 11) (v := .ref qh) (ty := (.object "LadderLand$Hours")) (C := RX11) (T := TX11) (N := 14) hx hb hts inlX11 tyX11 tyX11_ok nmX11 hown hK hP hD hS 0 rfl rfl 10 (by decide) (hts _ mw_2_17) (fun _ h9 => h9) rfl hin rfl (by decide +kernel) rfl rfl (Nat.le_of_ble_eq_true rfl) dX11_init_154 (fun H locs hP hD hS => ?_)
  replace hP : va_P D vwCl ([(a0, .inr (11, [.ref qt, .ref qlr, .ref qrr, .ref q1, .int 0, .ref qn, .ref q2, .ref q3, .int 0, .int 0, .ref qh, .null, .null, .null])), (q1, .inl (cR, 6, .inr (.inr (.inr (.inr (fun _ => (none : Option Nat))))))), (q2, .inl (cI, 4, .inr (.inr (.inr (.inr im))))), (q3, .inl (cP, 20, .inr (.inr (.inr (.inr pst)))))] ++ R8) H := hP
  replace hD : va_D A ([(a0, .inr (11, [.ref qt, .ref qlr, .ref qrr, .ref q1, .int 0, .ref qn, .ref q2, .ref q3, .int 0, .int 0, .ref qh, .null, .null, .null])), (q1, .inl (cR, 6, .inr (.inr (.inr (.inr (fun _ => (none : Option Nat))))))), (q2, .inl (cI, 4, .inr (.inr (.inr (.inr im))))), (q3, .inl (cP, 20, .inr (.inr (.inr (.inr pst)))))] ++ R8) := hD
  refine lv_aload_n hx hb dX11_init_157 rfl (lv_at hl 1 rfl) ?_
  refine va_new (ci := 3) (fs := [.int 0, .int 0, .int 0, .int 0, .int 0, .int 0, .int 0, .int 0, .int 0, .int 0, .int 0, .null, .null, .null]) (C := RX3) (T := TX3) (N := 14) hx hb hts inlX3 tyX3 tyX3_ok hown (hts _ mw_2_18) (hts _ mw_2_19) (hts _ mw_2_20) hK hP hD hS hA rfl (fun j hj => by rcases (show j = 0 ∨ j = 1 ∨ j = 2 ∨ j = 3 ∨ j = 4 ∨ j = 5 ∨ j = 6 ∨ j = 7 ∨ j = 8 ∨ j = 9 ∨ j = 10 ∨ j = 11 ∨ j = 12 ∨ j = 13 by omega) with rfl | rfl | rfl | rfl | rfl | rfl | rfl | rfl | rfl | rfl | rfl | rfl | rfl | rfl <;> rfl) (Nat.le_of_ble_eq_true rfl) (Nat.le_of_ble_eq_true rfl) dX11_init_158 (fun qo H hP hD hS => ?_)
  replace hP : va_P D vwCl (([(a0, .inr (11, [.ref qt, .ref qlr, .ref qrr, .ref q1, .int 0, .ref qn, .ref q2, .ref q3, .int 0, .int 0, .ref qh, .null, .null, .null])), (q1, .inl (cR, 6, .inr (.inr (.inr (.inr (fun _ => (none : Option Nat))))))), (q2, .inl (cI, 4, .inr (.inr (.inr (.inr im))))), (q3, .inl (cP, 20, .inr (.inr (.inr (.inr pst)))))] ++ R8) ++ [(qo, .inr (3, [.int 0, .int 0, .int 0, .int 0, .int 0, .int 0, .int 0, .int 0, .int 0, .int 0, .int 0, .null, .null, .null]))]) H := hP
  replace hD : va_D A (([(a0, .inr (11, [.ref qt, .ref qlr, .ref qrr, .ref q1, .int 0, .ref qn, .ref q2, .ref q3, .int 0, .int 0, .ref qh, .null, .null, .null])), (q1, .inl (cR, 6, .inr (.inr (.inr (.inr (fun _ => (none : Option Nat))))))), (q2, .inl (cI, 4, .inr (.inr (.inr (.inr im))))), (q3, .inl (cP, 20, .inr (.inr (.inr (.inr pst)))))] ++ R8) ++ [(qo, .inr (3, [.int 0, .int 0, .int 0, .int 0, .int 0, .int 0, .int 0, .int 0, .int 0, .int 0, .int 0, .null, .null, .null]))]) := hD
  refine W.widen (k := 192) (n := 1966) (Nat.le_refl _) (Nat.le_refl _) ?_
  refine lv_dup hx hb dX11_init_161 rfl ?_
  refine lv_aload_n hx hb dX11_init_162 rfl (lv_at hl 1 rfl) ?_
  refine va_get (ci := 11) (v := .ref qh) (C := RX11) (T := TX11) (N := 14) hx hb hts inlX11 hown hK hP 0 rfl rfl 10 (by decide) (hts _ mw_2_17) (fun _ h9 => h9) rfl dX11_init_163 ?_
  refine va_new (ci := 10) (fs := [.null, .int 0, .int 0, .null, .null, .null, .null, .null]) (C := RX10) (T := TX10) (N := 8) hx hb hts inlX10 tyX10 tyX10_ok hown (hts _ mw_2_10) (hts _ mw_2_12) (hts _ mw_2_13) hK hP hD hS hA rfl (fun j hj => by rcases (show j = 0 ∨ j = 1 ∨ j = 2 ∨ j = 3 ∨ j = 4 ∨ j = 5 ∨ j = 6 ∨ j = 7 by omega) with rfl | rfl | rfl | rfl | rfl | rfl | rfl | rfl <;> rfl) (Nat.le_of_ble_eq_true rfl) (Nat.le_of_ble_eq_true rfl) dX11_init_166 (fun qw H hP hD hS => ?_)
  replace hP : va_P D vwCl ((([(a0, .inr (11, [.ref qt, .ref qlr, .ref qrr, .ref q1, .int 0, .ref qn, .ref q2, .ref q3, .int 0, .int 0, .ref qh, .null, .null, .null])), (q1, .inl (cR, 6, .inr (.inr (.inr (.inr (fun _ => (none : Option Nat))))))), (q2, .inl (cI, 4, .inr (.inr (.inr (.inr im))))), (q3, .inl (cP, 20, .inr (.inr (.inr (.inr pst)))))] ++ R8) ++ [(qo, .inr (3, [.int 0, .int 0, .int 0, .int 0, .int 0, .int 0, .int 0, .int 0, .int 0, .int 0, .int 0, .null, .null, .null]))]) ++ [(qw, .inr (10, [.null, .int 0, .int 0, .null, .null, .null, .null, .null]))]) H := hP
  replace hD : va_D A ((([(a0, .inr (11, [.ref qt, .ref qlr, .ref qrr, .ref q1, .int 0, .ref qn, .ref q2, .ref q3, .int 0, .int 0, .ref qh, .null, .null, .null])), (q1, .inl (cR, 6, .inr (.inr (.inr (.inr (fun _ => (none : Option Nat))))))), (q2, .inl (cI, 4, .inr (.inr (.inr (.inr im))))), (q3, .inl (cP, 20, .inr (.inr (.inr (.inr pst)))))] ++ R8) ++ [(qo, .inr (3, [.int 0, .int 0, .int 0, .int 0, .int 0, .int 0, .int 0, .int 0, .int 0, .int 0, .int 0, .null, .null, .null]))]) ++ [(qw, .inr (10, [.null, .int 0, .int 0, .null, .null, .null, .null, .null]))]) := hD
  refine W.widen (k := 193) (n := 1974) (Nat.le_refl _) (Nat.le_refl _) ?_
  refine lv_dup hx hb dX11_init_169 rfl ?_
  refine lv_aload_n hx hb dX11_init_170 rfl (lv_at hl 2 rfl) ?_
  refine mIb (wr := ([(a0, .inr (11, [.ref qt, .ref qlr, .ref qrr, .ref q1, .int 0, .ref qn, .ref q2, .ref q3, .int 0, .int 0, .ref qh, .null, .null, .null])), (q1, .inl (cR, 6, .inr (.inr (.inr (.inr (fun _ => (none : Option Nat))))))), (q2, .inl (cI, 4, .inr (.inr (.inr (.inr im))))), (q3, .inl (cP, 20, .inr (.inr (.inr (.inr pst)))))] ++ R8) ++ [(qo, .inr (3, [.int 0, .int 0, .int 0, .int 0, .int 0, .int 0, .int 0, .int 0, .int 0, .int 0, .int 0, .null, .null, .null]))]) (wc := [(qw, .inr (10, [.null, .int 0, .int 0, .null, .null, .null, .null, .null]))]) (As := [.ref ql]) (rest := [.ref qw, .ref qh, .ref qo, .ref qo, .ref a0]) S hK hP hD hS hA (i10 (l := l) (D := D)) mw_5_3 mw_2_13 mw_5_11 mw_5_2 rfl rfl rfl hd_i10_init ⟨Nat.le_of_ble_eq_true rfl, Nat.le_of_ble_eq_true rfl⟩ rfl hl.1 rfl (Nat.le_of_ble_eq_true rfl) dX11_init_171 ⟨Nat.le_of_ble_eq_true rfl, Nat.le_of_ble_eq_true rfl⟩ (fun w1 t1 H locs hZ hK hP hD hS => ?_)
  obtain ⟨Low, yow, hZ1, hZ2⟩ := hZ
  obtain ⟨T12, hT12⟩ : ∃ X, X = T11 ++ t1 := ⟨_, rfl⟩
  rw [← hT12] at hK
  rw [hZ2] at hT12
  clear hZ2
  refine W.widen (k := 198) (n := 1999) (Nat.le_refl _) (Nat.le_refl _) ?_
  obtain ⟨R9, hR9⟩ : ∃ X, X = R8 ++ w1 := ⟨_, rfl⟩
  replace hP : va_P D vwCl (([(a0, .inr (11, [.ref qt, .ref qlr, .ref qrr, .ref q1, .int 0, .ref qn, .ref q2, .ref q3, .int 0, .int 0, .ref qh, .null, .null, .null])), (q1, .inl (cR, 6, .inr (.inr (.inr (.inr (fun _ => (none : Option Nat))))))), (q2, .inl (cI, 4, .inr (.inr (.inr (.inr im))))), (q3, .inl (cP, 20, .inr (.inr (.inr (.inr pst)))))] ++ R9) ++ [(qo, .inr (3, [.int 0, .int 0, .int 0, .int 0, .int 0, .int 0, .int 0, .int 0, .int 0, .int 0, .int 0, .null, .null, .null]))]) H := by rw [hR9, ← List.append_assoc]; exact vP_perm hP (pm3 _ _ _)
  replace hD : va_D A (([(a0, .inr (11, [.ref qt, .ref qlr, .ref qrr, .ref q1, .int 0, .ref qn, .ref q2, .ref q3, .int 0, .int 0, .ref qh, .null, .null, .null])), (q1, .inl (cR, 6, .inr (.inr (.inr (.inr (fun _ => (none : Option Nat))))))), (q2, .inl (cI, 4, .inr (.inr (.inr (.inr im))))), (q3, .inl (cP, 20, .inr (.inr (.inr (.inr pst)))))] ++ R9) ++ [(qo, .inr (3, [.int 0, .int 0, .int 0, .int 0, .int 0, .int 0, .int 0, .int 0, .int 0, .int 0, .int 0, .null, .null, .null]))]) := by rw [hR9, ← List.append_assoc]; exact vD_perm hD (pm3 _ _ _)
  rw [hZ1] at hR9
  clear hZ1
  refine mIb (wr := [(a0, .inr (11, [.ref qt, .ref qlr, .ref qrr, .ref q1, .int 0, .ref qn, .ref q2, .ref q3, .int 0, .int 0, .ref qh, .null, .null, .null])), (q1, .inl (cR, 6, .inr (.inr (.inr (.inr (fun _ => (none : Option Nat))))))), (q2, .inl (cI, 4, .inr (.inr (.inr (.inr im))))), (q3, .inl (cP, 20, .inr (.inr (.inr (.inr pst)))))] ++ R9) (wc := [(qo, .inr (3, [.int 0, .int 0, .int 0, .int 0, .int 0, .int 0, .int 0, .int 0, .int 0, .int 0, .int 0, .null, .null, .null]))]) (As := [.ref qh, .ref qw]) (rest := [.ref qo, .ref a0]) S hK hP hD hS hA (i3 (l := l) (D := D)) mw_5_22 mw_2_20 mw_5_20 mw_5_21 rfl rfl rfl hd_i3_init ⟨Nat.le_of_ble_eq_true rfl, Nat.le_of_ble_eq_true rfl⟩ rfl hl.1 rfl (Nat.le_of_ble_eq_true rfl) dX11_init_174 ⟨Nat.le_of_ble_eq_true rfl, Nat.le_of_ble_eq_true rfl⟩ (fun w1 t1 H locs hZ hK hP hD hS => ?_)
  obtain ⟨Lo, yo, hZ1, hZ2⟩ := hZ
  obtain ⟨T13, hT13⟩ : ∃ X, X = T12 ++ t1 := ⟨_, rfl⟩
  rw [← hT13] at hK
  rw [hZ2] at hT13
  clear hZ2
  refine W.widen (k := 199) (n := 2062) (Nat.le_refl _) (Nat.le_refl _) ?_
  obtain ⟨R10, hR10⟩ : ∃ X, X = R9 ++ w1 := ⟨_, rfl⟩
  replace hP : va_P D vwCl ([(a0, .inr (11, [.ref qt, .ref qlr, .ref qrr, .ref q1, .int 0, .ref qn, .ref q2, .ref q3, .int 0, .int 0, .ref qh, .null, .null, .null])), (q1, .inl (cR, 6, .inr (.inr (.inr (.inr (fun _ => (none : Option Nat))))))), (q2, .inl (cI, 4, .inr (.inr (.inr (.inr im))))), (q3, .inl (cP, 20, .inr (.inr (.inr (.inr pst)))))] ++ R10) H := by rw [hR10, ← List.append_assoc]; exact hP
  replace hD : va_D A ([(a0, .inr (11, [.ref qt, .ref qlr, .ref qrr, .ref q1, .int 0, .ref qn, .ref q2, .ref q3, .int 0, .int 0, .ref qh, .null, .null, .null])), (q1, .inl (cR, 6, .inr (.inr (.inr (.inr (fun _ => (none : Option Nat))))))), (q2, .inl (cI, 4, .inr (.inr (.inr (.inr im))))), (q3, .inl (cP, 20, .inr (.inr (.inr (.inr pst)))))] ++ R10) := by rw [hR10, ← List.append_assoc]; exact hD
  rw [hZ1] at hR10
  clear hZ1
  refine va_putF (ci := 11) (v := .ref qo) (ty := (.object "LadderLand$Outlook")) (C := RX11) (T := TX11) (N := 14) hx hb hts inlX11 tyX11 tyX11_ok nmX11 hown hK hP hD hS 0 rfl rfl 11 (by decide) (hts _ mw_2_21) (fun _ h9 => h9) rfl hin rfl (by decide +kernel) rfl rfl (Nat.le_of_ble_eq_true rfl) dX11_init_177 (fun H locs hP hD hS => ?_)
  replace hP : va_P D vwCl ([(a0, .inr (11, [.ref qt, .ref qlr, .ref qrr, .ref q1, .int 0, .ref qn, .ref q2, .ref q3, .int 0, .int 0, .ref qh, .ref qo, .null, .null])), (q1, .inl (cR, 6, .inr (.inr (.inr (.inr (fun _ => (none : Option Nat))))))), (q2, .inl (cI, 4, .inr (.inr (.inr (.inr im))))), (q3, .inl (cP, 20, .inr (.inr (.inr (.inr pst)))))] ++ R10) H := hP
  replace hD : va_D A ([(a0, .inr (11, [.ref qt, .ref qlr, .ref qrr, .ref q1, .int 0, .ref qn, .ref q2, .ref q3, .int 0, .int 0, .ref qh, .ref qo, .null, .null])), (q1, .inl (cR, 6, .inr (.inr (.inr (.inr (fun _ => (none : Option Nat))))))), (q2, .inl (cI, 4, .inr (.inr (.inr (.inr im))))), (q3, .inl (cP, 20, .inr (.inr (.inr (.inr pst)))))] ++ R10) := hD
  refine lv_aload_n hx hb dX11_init_180 rfl (lv_at hl 1 rfl) ?_
  refine va_new (ci := 4) (fs := [.null, .int 0, .null, .null, .int 0, .int 0, .int 0, .null, .null, .null, .null, .null]) (C := RX4) (T := TX4) (N := 12) hx hb hts inlX4 tyX4 tyX4_ok hown (hts _ mw_2_22) (hts _ mw_2_23) (hts _ mw_3_0) hK hP hD hS hA rfl (fun j hj => by rcases (show j = 0 ∨ j = 1 ∨ j = 2 ∨ j = 3 ∨ j = 4 ∨ j = 5 ∨ j = 6 ∨ j = 7 ∨ j = 8 ∨ j = 9 ∨ j = 10 ∨ j = 11 by omega) with rfl | rfl | rfl | rfl | rfl | rfl | rfl | rfl | rfl | rfl | rfl | rfl <;> rfl) (Nat.le_of_ble_eq_true rfl) (Nat.le_of_ble_eq_true rfl) dX11_init_181 (fun qp H hP hD hS => ?_)
  replace hP : va_P D vwCl (([(a0, .inr (11, [.ref qt, .ref qlr, .ref qrr, .ref q1, .int 0, .ref qn, .ref q2, .ref q3, .int 0, .int 0, .ref qh, .ref qo, .null, .null])), (q1, .inl (cR, 6, .inr (.inr (.inr (.inr (fun _ => (none : Option Nat))))))), (q2, .inl (cI, 4, .inr (.inr (.inr (.inr im))))), (q3, .inl (cP, 20, .inr (.inr (.inr (.inr pst)))))] ++ R10) ++ [(qp, .inr (4, [.null, .int 0, .null, .null, .int 0, .int 0, .int 0, .null, .null, .null, .null, .null]))]) H := hP
  replace hD : va_D A (([(a0, .inr (11, [.ref qt, .ref qlr, .ref qrr, .ref q1, .int 0, .ref qn, .ref q2, .ref q3, .int 0, .int 0, .ref qh, .ref qo, .null, .null])), (q1, .inl (cR, 6, .inr (.inr (.inr (.inr (fun _ => (none : Option Nat))))))), (q2, .inl (cI, 4, .inr (.inr (.inr (.inr im))))), (q3, .inl (cP, 20, .inr (.inr (.inr (.inr pst)))))] ++ R10) ++ [(qp, .inr (4, [.null, .int 0, .null, .null, .int 0, .int 0, .int 0, .null, .null, .null, .null, .null]))]) := hD
  refine W.widen (k := 200) (n := 2074) (Nat.le_refl _) (Nat.le_refl _) ?_
  refine lv_dup hx hb dX11_init_184 rfl ?_
  refine lv_aload_n hx hb dX11_init_185 rfl (lv_at hl 1 rfl) ?_
  refine va_get (ci := 11) (v := .ref qn) (C := RX11) (T := TX11) (N := 14) hx hb hts inlX11 hown hK hP 0 rfl rfl 5 (by decide) (hts _ mw_2_8) (fun _ h9 => h9) rfl dX11_init_186 ?_
  obtain ⟨kn, hkn⟩ : ∃ k, (([(a0, .inr (11, [.ref qt, .ref qlr, .ref qrr, .ref q1, .int 0, .ref qn, .ref q2, .ref q3, .int 0, .int 0, .ref qh, .ref qo, .null, .null])), (q1, .inl (cR, 6, .inr (.inr (.inr (.inr (fun _ => (none : Option Nat))))))), (q2, .inl (cI, 4, .inr (.inr (.inr (.inr im))))), (q3, .inl (cP, 20, .inr (.inr (.inr (.inr pst)))))] ++ R10) ++ [(qp, .inr (4, [.null, .int 0, .null, .null, .int 0, .int 0, .int 0, .null, .null, .null, .null, .null]))] : va_W)[k]? = some ((qn, .inr (8, [.ref qnw, .int (-1), .int 0, .int 0, .ref (adOf qn Ln 1), .ref (adOf qn Ln 2), .ref (adOf qn Ln 3), .int 0])) : Nat × va_E) := by
    refine List.mem_iff_getElem?.mp (List.mem_append_left _ (List.mem_append_right _ ?_))
    rw [hR10, hR9, hR8, hR7, hR6, hR5]
    exact List.mem_append_left _ (List.mem_append_left _ (List.mem_append_left _ (List.mem_append_left _ (List.mem_append_left _ (List.mem_append_right _ (List.mem_append_left _ List.mem_cons_self))))))
  refine va_get (ci := 8) (v := .ref qnw) (C := RX8) (T := TX8) (N := 8) hx hb hts inlX8 hown hK hP kn hkn rfl 0 (by decide) (hts _ mw_3_1) (fun _ h9 => h9) rfl dX11_init_189 ?_
  refine mIb (wr := [(a0, .inr (11, [.ref qt, .ref qlr, .ref qrr, .ref q1, .int 0, .ref qn, .ref q2, .ref q3, .int 0, .int 0, .ref qh, .ref qo, .null, .null])), (q1, .inl (cR, 6, .inr (.inr (.inr (.inr (fun _ => (none : Option Nat))))))), (q2, .inl (cI, 4, .inr (.inr (.inr (.inr im))))), (q3, .inl (cP, 20, .inr (.inr (.inr (.inr pst)))))] ++ R10) (wc := [(qp, .inr (4, [.null, .int 0, .null, .null, .int 0, .int 0, .int 0, .null, .null, .null, .null, .null]))]) (As := [.ref qnw]) (rest := [.ref qp, .ref a0]) S hK hP hD hS hA (i4 (l := l) (D := D)) mw_6_5 mw_3_0 mw_6_3 mw_6_4 rfl rfl rfl hd_i4_init ⟨Nat.le_of_ble_eq_true rfl, Nat.le_of_ble_eq_true rfl⟩ rfl hl.1 rfl (Nat.le_of_ble_eq_true rfl) dX11_init_192 ⟨Nat.le_of_ble_eq_true rfl, Nat.le_of_ble_eq_true rfl⟩ (fun w1 t1 H locs hZ hK hP hD hS => ?_)
  obtain ⟨Lp, yp, hZ1, hZ2⟩ := hZ
  obtain ⟨T14, hT14⟩ : ∃ X, X = T13 ++ t1 := ⟨_, rfl⟩
  rw [← hT14] at hK
  rw [hZ2] at hT14
  clear hZ2
  refine W.widen (k := 207) (n := 2109) (Nat.le_refl _) (Nat.le_refl _) ?_
  obtain ⟨R11, hR11⟩ : ∃ X, X = R10 ++ w1 := ⟨_, rfl⟩
  replace hP : va_P D vwCl ([(a0, .inr (11, [.ref qt, .ref qlr, .ref qrr, .ref q1, .int 0, .ref qn, .ref q2, .ref q3, .int 0, .int 0, .ref qh, .ref qo, .null, .null])), (q1, .inl (cR, 6, .inr (.inr (.inr (.inr (fun _ => (none : Option Nat))))))), (q2, .inl (cI, 4, .inr (.inr (.inr (.inr im))))), (q3, .inl (cP, 20, .inr (.inr (.inr (.inr pst)))))] ++ R11) H := by rw [hR11, ← List.append_assoc]; exact hP
  replace hD : va_D A ([(a0, .inr (11, [.ref qt, .ref qlr, .ref qrr, .ref q1, .int 0, .ref qn, .ref q2, .ref q3, .int 0, .int 0, .ref qh, .ref qo, .null, .null])), (q1, .inl (cR, 6, .inr (.inr (.inr (.inr (fun _ => (none : Option Nat))))))), (q2, .inl (cI, 4, .inr (.inr (.inr (.inr im))))), (q3, .inl (cP, 20, .inr (.inr (.inr (.inr pst)))))] ++ R11) := by rw [hR11, ← List.append_assoc]; exact hD
  rw [hZ1] at hR11
  clear hZ1
  refine va_putF (ci := 11) (v := .ref qp) (ty := (.object "LadderLand$Paths")) (C := RX11) (T := TX11) (N := 14) hx hb hts inlX11 tyX11 tyX11_ok nmX11 hown hK hP hD hS 0 rfl rfl 12 (by decide) (hts _ mw_3_2) (fun _ h9 => h9) rfl hin rfl (by decide +kernel) rfl rfl (Nat.le_of_ble_eq_true rfl) dX11_init_195 (fun H locs hP hD hS => ?_)
  replace hP : va_P D vwCl ([(a0, .inr (11, [.ref qt, .ref qlr, .ref qrr, .ref q1, .int 0, .ref qn, .ref q2, .ref q3, .int 0, .int 0, .ref qh, .ref qo, .ref qp, .null])), (q1, .inl (cR, 6, .inr (.inr (.inr (.inr (fun _ => (none : Option Nat))))))), (q2, .inl (cI, 4, .inr (.inr (.inr (.inr im))))), (q3, .inl (cP, 20, .inr (.inr (.inr (.inr pst)))))] ++ R11) H := hP
  replace hD : va_D A ([(a0, .inr (11, [.ref qt, .ref qlr, .ref qrr, .ref q1, .int 0, .ref qn, .ref q2, .ref q3, .int 0, .int 0, .ref qh, .ref qo, .ref qp, .null])), (q1, .inl (cR, 6, .inr (.inr (.inr (.inr (fun _ => (none : Option Nat))))))), (q2, .inl (cI, 4, .inr (.inr (.inr (.inr im))))), (q3, .inl (cP, 20, .inr (.inr (.inr (.inr pst)))))] ++ R11) := hD
  refine lv_aload_n hx hb dX11_init_198 rfl (lv_at hl 1 rfl) ?_
  refine va_new (ci := 7) (fs := [.int 0, .null]) (C := RX7) (T := TX7) (N := 2) hx hb hts inlX7 tyX7 tyX7_ok hown (hts _ mw_3_3) (hts _ mw_3_4) (hts _ mw_3_5) hK hP hD hS hA rfl (fun j hj => by rcases (show j = 0 ∨ j = 1 by omega) with rfl | rfl <;> rfl) (Nat.le_of_ble_eq_true rfl) (Nat.le_of_ble_eq_true rfl) dX11_init_199 (fun qs H hP hD hS => ?_)
  replace hP : va_P D vwCl (([(a0, .inr (11, [.ref qt, .ref qlr, .ref qrr, .ref q1, .int 0, .ref qn, .ref q2, .ref q3, .int 0, .int 0, .ref qh, .ref qo, .ref qp, .null])), (q1, .inl (cR, 6, .inr (.inr (.inr (.inr (fun _ => (none : Option Nat))))))), (q2, .inl (cI, 4, .inr (.inr (.inr (.inr im))))), (q3, .inl (cP, 20, .inr (.inr (.inr (.inr pst)))))] ++ R11) ++ [(qs, .inr (7, [.int 0, .null]))]) H := hP
  replace hD : va_D A (([(a0, .inr (11, [.ref qt, .ref qlr, .ref qrr, .ref q1, .int 0, .ref qn, .ref q2, .ref q3, .int 0, .int 0, .ref qh, .ref qo, .ref qp, .null])), (q1, .inl (cR, 6, .inr (.inr (.inr (.inr (fun _ => (none : Option Nat))))))), (q2, .inl (cI, 4, .inr (.inr (.inr (.inr im))))), (q3, .inl (cP, 20, .inr (.inr (.inr (.inr pst)))))] ++ R11) ++ [(qs, .inr (7, [.int 0, .null]))]) := hD
  refine W.widen (k := 208) (n := 2111) (Nat.le_refl _) (Nat.le_refl _) ?_
  refine lv_dup hx hb dX11_init_202 rfl ?_
  refine va_new (ci := 10) (fs := [.null, .int 0, .int 0, .null, .null, .null, .null, .null]) (C := RX10) (T := TX10) (N := 8) hx hb hts inlX10 tyX10 tyX10_ok hown (hts _ mw_2_10) (hts _ mw_2_12) (hts _ mw_2_13) hK hP hD hS hA rfl (fun j hj => by rcases (show j = 0 ∨ j = 1 ∨ j = 2 ∨ j = 3 ∨ j = 4 ∨ j = 5 ∨ j = 6 ∨ j = 7 by omega) with rfl | rfl | rfl | rfl | rfl | rfl | rfl | rfl <;> rfl) (Nat.le_of_ble_eq_true rfl) (Nat.le_of_ble_eq_true rfl) dX11_init_203 (fun qsw H hP hD hS => ?_)
  replace hP : va_P D vwCl ((([(a0, .inr (11, [.ref qt, .ref qlr, .ref qrr, .ref q1, .int 0, .ref qn, .ref q2, .ref q3, .int 0, .int 0, .ref qh, .ref qo, .ref qp, .null])), (q1, .inl (cR, 6, .inr (.inr (.inr (.inr (fun _ => (none : Option Nat))))))), (q2, .inl (cI, 4, .inr (.inr (.inr (.inr im))))), (q3, .inl (cP, 20, .inr (.inr (.inr (.inr pst)))))] ++ R11) ++ [(qs, .inr (7, [.int 0, .null]))]) ++ [(qsw, .inr (10, [.null, .int 0, .int 0, .null, .null, .null, .null, .null]))]) H := hP
  replace hD : va_D A ((([(a0, .inr (11, [.ref qt, .ref qlr, .ref qrr, .ref q1, .int 0, .ref qn, .ref q2, .ref q3, .int 0, .int 0, .ref qh, .ref qo, .ref qp, .null])), (q1, .inl (cR, 6, .inr (.inr (.inr (.inr (fun _ => (none : Option Nat))))))), (q2, .inl (cI, 4, .inr (.inr (.inr (.inr im))))), (q3, .inl (cP, 20, .inr (.inr (.inr (.inr pst)))))] ++ R11) ++ [(qs, .inr (7, [.int 0, .null]))]) ++ [(qsw, .inr (10, [.null, .int 0, .int 0, .null, .null, .null, .null, .null]))]) := hD
  refine W.widen (k := 209) (n := 2119) (Nat.le_refl _) (Nat.le_refl _) ?_
  refine lv_dup hx hb dX11_init_206 rfl ?_
  refine lv_aload_n hx hb dX11_init_207 rfl (lv_at hl 2 rfl) ?_
  refine mIb (wr := ([(a0, .inr (11, [.ref qt, .ref qlr, .ref qrr, .ref q1, .int 0, .ref qn, .ref q2, .ref q3, .int 0, .int 0, .ref qh, .ref qo, .ref qp, .null])), (q1, .inl (cR, 6, .inr (.inr (.inr (.inr (fun _ => (none : Option Nat))))))), (q2, .inl (cI, 4, .inr (.inr (.inr (.inr im))))), (q3, .inl (cP, 20, .inr (.inr (.inr (.inr pst)))))] ++ R11) ++ [(qs, .inr (7, [.int 0, .null]))]) (wc := [(qsw, .inr (10, [.null, .int 0, .int 0, .null, .null, .null, .null, .null]))]) (As := [.ref ql]) (rest := [.ref qsw, .ref qs, .ref qs, .ref a0]) S hK hP hD hS hA (i10 (l := l) (D := D)) mw_5_3 mw_2_13 mw_5_11 mw_5_2 rfl rfl rfl hd_i10_init ⟨Nat.le_of_ble_eq_true rfl, Nat.le_of_ble_eq_true rfl⟩ rfl hl.1 rfl (Nat.le_of_ble_eq_true rfl) dX11_init_208 ⟨Nat.le_of_ble_eq_true rfl, Nat.le_of_ble_eq_true rfl⟩ (fun w1 t1 H locs hZ hK hP hD hS => ?_)
  obtain ⟨Lsw, ysw, hZ1, hZ2⟩ := hZ
  obtain ⟨T15, hT15⟩ : ∃ X, X = T14 ++ t1 := ⟨_, rfl⟩
  rw [← hT15] at hK
  rw [hZ2] at hT15
  clear hZ2
  refine W.widen (k := 214) (n := 2144) (Nat.le_refl _) (Nat.le_refl _) ?_
  obtain ⟨R12, hR12⟩ : ∃ X, X = R11 ++ w1 := ⟨_, rfl⟩
  replace hP : va_P D vwCl (([(a0, .inr (11, [.ref qt, .ref qlr, .ref qrr, .ref q1, .int 0, .ref qn, .ref q2, .ref q3, .int 0, .int 0, .ref qh, .ref qo, .ref qp, .null])), (q1, .inl (cR, 6, .inr (.inr (.inr (.inr (fun _ => (none : Option Nat))))))), (q2, .inl (cI, 4, .inr (.inr (.inr (.inr im))))), (q3, .inl (cP, 20, .inr (.inr (.inr (.inr pst)))))] ++ R12) ++ [(qs, .inr (7, [.int 0, .null]))]) H := by rw [hR12, ← List.append_assoc]; exact vP_perm hP (pm3 _ _ _)
  replace hD : va_D A (([(a0, .inr (11, [.ref qt, .ref qlr, .ref qrr, .ref q1, .int 0, .ref qn, .ref q2, .ref q3, .int 0, .int 0, .ref qh, .ref qo, .ref qp, .null])), (q1, .inl (cR, 6, .inr (.inr (.inr (.inr (fun _ => (none : Option Nat))))))), (q2, .inl (cI, 4, .inr (.inr (.inr (.inr im))))), (q3, .inl (cP, 20, .inr (.inr (.inr (.inr pst)))))] ++ R12) ++ [(qs, .inr (7, [.int 0, .null]))]) := by rw [hR12, ← List.append_assoc]; exact vD_perm hD (pm3 _ _ _)
  rw [hZ1] at hR12
  clear hZ1
  refine mIb (wr := [(a0, .inr (11, [.ref qt, .ref qlr, .ref qrr, .ref q1, .int 0, .ref qn, .ref q2, .ref q3, .int 0, .int 0, .ref qh, .ref qo, .ref qp, .null])), (q1, .inl (cR, 6, .inr (.inr (.inr (.inr (fun _ => (none : Option Nat))))))), (q2, .inl (cI, 4, .inr (.inr (.inr (.inr im))))), (q3, .inl (cP, 20, .inr (.inr (.inr (.inr pst)))))] ++ R12) (wc := [(qs, .inr (7, [.int 0, .null]))]) (As := [.ref qsw]) (rest := [.ref qs, .ref a0]) S hK hP hD hS hA (i7 (l := l) (D := D)) mw_6_17 mw_3_5 mw_6_15 mw_6_16 rfl rfl rfl hd_i7_init ⟨Nat.le_of_ble_eq_true rfl, Nat.le_of_ble_eq_true rfl⟩ rfl hl.1 rfl (Nat.le_of_ble_eq_true rfl) dX11_init_211 ⟨Nat.le_of_ble_eq_true rfl, Nat.le_of_ble_eq_true rfl⟩ (fun w1 t1 H locs hZ hK hP hD hS => ?_)
  obtain ⟨Ls, ys, hZ1, hZ2⟩ := hZ
  obtain ⟨T16, hT16⟩ : ∃ X, X = T15 ++ t1 := ⟨_, rfl⟩
  rw [← hT16] at hK
  rw [hZ2] at hT16
  clear hZ2
  refine W.widen (k := 214) (n := 2144) (Nat.le_refl _) (Nat.le_refl _) ?_
  obtain ⟨R13, hR13⟩ : ∃ X, X = R12 ++ w1 := ⟨_, rfl⟩
  replace hP : va_P D vwCl ([(a0, .inr (11, [.ref qt, .ref qlr, .ref qrr, .ref q1, .int 0, .ref qn, .ref q2, .ref q3, .int 0, .int 0, .ref qh, .ref qo, .ref qp, .null])), (q1, .inl (cR, 6, .inr (.inr (.inr (.inr (fun _ => (none : Option Nat))))))), (q2, .inl (cI, 4, .inr (.inr (.inr (.inr im))))), (q3, .inl (cP, 20, .inr (.inr (.inr (.inr pst)))))] ++ R13) H := by rw [hR13, ← List.append_assoc]; exact hP
  replace hD : va_D A ([(a0, .inr (11, [.ref qt, .ref qlr, .ref qrr, .ref q1, .int 0, .ref qn, .ref q2, .ref q3, .int 0, .int 0, .ref qh, .ref qo, .ref qp, .null])), (q1, .inl (cR, 6, .inr (.inr (.inr (.inr (fun _ => (none : Option Nat))))))), (q2, .inl (cI, 4, .inr (.inr (.inr (.inr im))))), (q3, .inl (cP, 20, .inr (.inr (.inr (.inr pst)))))] ++ R13) := by rw [hR13, ← List.append_assoc]; exact hD
  rw [hZ1] at hR13
  clear hZ1
  refine va_putF (ci := 11) (v := .ref qs) (ty := (.object "LadderLand$Siege")) (C := RX11) (T := TX11) (N := 14) hx hb hts inlX11 tyX11 tyX11_ok nmX11 hown hK hP hD hS 0 rfl rfl 13 (by decide) (hts _ mw_3_6) (fun _ h9 => h9) rfl hin rfl (by decide +kernel) rfl rfl (Nat.le_of_ble_eq_true rfl) dX11_init_214 (fun H locs hP hD hS => ?_)
  replace hP : va_P D vwCl ([(a0, .inr (11, [.ref qt, .ref qlr, .ref qrr, .ref q1, .int 0, .ref qn, .ref q2, .ref q3, .int 0, .int 0, .ref qh, .ref qo, .ref qp, .ref qs])), (q1, .inl (cR, 6, .inr (.inr (.inr (.inr (fun _ => (none : Option Nat))))))), (q2, .inl (cI, 4, .inr (.inr (.inr (.inr im))))), (q3, .inl (cP, 20, .inr (.inr (.inr (.inr pst)))))] ++ R13) H := hP
  replace hD : va_D A ([(a0, .inr (11, [.ref qt, .ref qlr, .ref qrr, .ref q1, .int 0, .ref qn, .ref q2, .ref q3, .int 0, .int 0, .ref qh, .ref qo, .ref qp, .ref qs])), (q1, .inl (cR, 6, .inr (.inr (.inr (.inr (fun _ => (none : Option Nat))))))), (q2, .inl (cI, 4, .inr (.inr (.inr (.inr im))))), (q3, .inl (cP, 20, .inr (.inr (.inr (.inr pst)))))] ++ R13) := hD
  refine W.widen (k := 240) (n := 2600) (Nat.le_of_ble_eq_true rfl) (Nat.le_of_ble_eq_true rfl) ?_
  exact hret _ _ _ _ _ _ ⟨R13, T16, q1, q2, q3, ql, qt, qlr, qrr, qn, qnw, qh, qw, qo, qp, qsw, qs, cR, cI, cP, im, pst, Ll, Lt, Llr, Lrr, Ln, Lnw, Lh, Low, Lo, Lp, Lsw, Ls, yl, yt, ylr, yrr, yn, ynw, yh, yow, yo, yp, ysw, ys, A1, C1, A2, C2, A3, C3, rfl, rfl, him, hpst, by rw [hR13, hR12, hR11, hR10, hR9, hR8, hR7, hR6, hR5, hR4, hR3, hR2, hR1, hR0]; rfl, by rw [hT16, hT15, hT14, hT13, hT12, hT11, hT10, hT9, hT8, hT7, hT6, hT5, hT4, hT3, hT2, hT1, hT0]⟩ hK hP hD hS dX11_init_217

