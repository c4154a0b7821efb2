abbrev rm_f11_rule : Room := { frames := 63, cells := 5, slots := 1269, locals := 1679 }
set_option maxHeartbeats 4000000 in
set_option maxRecDepth 100000 in
theorem c11_rule_full {l : Launch} {D : va_G} {adK adV : Nat → Nat} {aL aT aR : Nat → Nat} {yL yT yR : Nat → ClassId} {zlr zn zh zo zp zs k : Nat} {rls im pst : Nat → Option Nat} {nx pc0 len kind sign fault start stop size cn vals u1 k1 g1 f1 st1 sp1 : Int32} {by9 code sumEnd testEnd code1 sumEnd1 testEnd1 : Nat → Int32} (hk : k = 6) : MetT l yX11_rule cX11_rule 2 (some .int) rm_f11_rule D ([(yL 1, .object "LadderLand$Rule"), (yL 2, .object "LadderLand$State"), (yL 3, .object "LadderLand$World"), (yT 1, .int), (yR 1, .int), (yR 2, .int), (yR 3, .int)]) (cLL aL yL (aT 0) zlr (aR 0) rls (nn k) zn im pst nx pc0 zh zo zp zs ++ cTp aT yT by9 len kind sign fault start stop ++ cRR aR yR (aT 0) code sumEnd testEnd size cn vals) [.ref (aL 0)] adK adV 5 1269 (fun w t r => w = cLL aL yL (aT 0) zlr (aR 0) rls (nn k) zn im pst nx pc0 zh zo zp zs ++ cTp aT yT by9 len kind sign fault start stop ++ cRR aR yR (aT 0) code sumEnd testEnd size cn vals ∧ t = [(yL 1, .object "LadderLand$Rule"), (yL 2, .object "LadderLand$State"), (yL 3, .object "LadderLand$World"), (yT 1, .int), (yR 1, .int), (yR 2, .int), (yR 3, .int)] ∧ r = -1) := by
  refine metT_of (own := RX11) rfl (by decide) (Nat.le_of_ble_eq_true rfl) ?_
  intro p e s m args below meth c A Q ls S hK hA hP hD hS hl hE hV hret
  obtain ⟨hx, hb, hml, hown, hts⟩ := id S
  replace hl : lv_has ls 2 [(0, .ref (aL 0))] := hl
  generalize hH : s.heap = H at hP ⊢
  replace hS : va_S A s.heap H [] := by rw [← hH]; exact hS
  generalize hlo : ([] : List Loc) = locs at hS ⊢
  refine lv_aload_n hx hb dX11_rule_0 rfl (lv_at hl 0 rfl) ?_
  refine va_get (ci := 11) (v := .int (nn k)) (C := RX11) (T := TX11) (N := 14) hx hb hts inlX11 hown hK hP 0 rfl rfl 4 (by decide) (hts _ mw_22_20) (fun _ h9 => h9) rfl dX11_rule_1 ?_
  refine lv_bipush (v := (6 : Int32)) hx hb dX11_rule_4 (by decide) ?_
  refine lv_icmp_lt (tgt := 11) hx hb dX11_rule_6 rfl (fun c9 => absurd c9 (by rw [hk]; decide)) (fun _ => ?_)
  refine lv_iconst (v := (-1 : Int32)) hx hb dX11_rule_9 (by decide) ?_
  refine W.widen (k := 5) (n := 1269) (Nat.le_of_ble_eq_true rfl) (Nat.le_of_ble_eq_true rfl) ?_
  exact hret _ _ _ _ _ _ _ ⟨rfl, rfl, rfl⟩ hK hP hD hS rfl dX11_rule_10
set_option maxHeartbeats 4000000 in
set_option maxRecDepth 100000 in
theorem c11_rule_bad {l : Launch} {D : va_G} {adK adV : Nat → Nat} {aL aT aR : Nat → Nat} {yL yT yR : Nat → ClassId} {zlr zn zh zo zp zs k : Nat} {rls im pst : Nat → Option Nat} {nx pc0 len kind sign fault start stop size cn vals u1 k1 g1 f1 st1 sp1 : Int32} {by9 code sumEnd testEnd code1 sumEnd1 testEnd1 : Nat → Int32} {size1 cn1 : Int32} (hk : k < 6) (hrd : f6_readText code sumEnd testEnd size cn vals by9 len kind sign fault start stop = some (0, code1, sumEnd1, testEnd1, size1, cn1, u1, k1, g1, f1, st1, sp1)) : MetT l yX11_rule cX11_rule 2 (some .int) rm_f11_rule D ([(yL 1, .object "LadderLand$Rule"), (yL 2, .object "LadderLand$State"), (yL 3, .object "LadderLand$World"), (yT 1, .int), (yR 1, .int), (yR 2, .int), (yR 3, .int)]) (cLL aL yL (aT 0) zlr (aR 0) rls (nn k) zn im pst nx pc0 zh zo zp zs ++ cTp aT yT by9 len kind sign fault start stop ++ cRR aR yR (aT 0) code sumEnd testEnd size cn vals) [.ref (aL 0)] adK adV 5 1269 (fun w t r => w = cLL aL yL (aT 0) zlr (aR 0) rls (nn k) zn im pst nx pc0 zh zo zp zs ++ cTp aT yT by9 0 k1 g1 f1 st1 sp1 ++ cRR aR yR (aT 0) code1 sumEnd1 testEnd1 size1 cn1 u1 ∧ t = [(yL 1, .object "LadderLand$Rule"), (yL 2, .object "LadderLand$State"), (yL 3, .object "LadderLand$World"), (yT 1, .int), (yR 1, .int), (yR 2, .int), (yR 3, .int)] ∧ r = -2 - f1) := by
  refine metT_of (own := RX11) rfl (by decide) (Nat.le_of_ble_eq_true rfl) ?_
  intro p e s m args below meth c A Q ls S hK hA hP hD hS hl hE hV hret
  obtain ⟨hx, hb, hml, hown, hts⟩ := id S
  replace hl : lv_has ls 2 [(0, .ref (aL 0))] := hl
  generalize hH : s.heap = H at hP ⊢
  replace hS : va_S A s.heap H [] := by rw [← hH]; exact hS
  generalize hlo : ([] : List Loc) = locs at hS ⊢
  refine lv_aload_n hx hb dX11_rule_0 rfl (lv_at hl 0 rfl) ?_
  refine va_get (ci := 11) (v := .int (nn k)) (C := RX11) (T := TX11) (N := 14) hx hb hts inlX11 hown hK hP 0 rfl rfl 4 (by decide) (hts _ mw_22_20) (fun _ h9 => h9) rfl dX11_rule_1 ?_
  refine lv_bipush (v := (6 : Int32)) hx hb dX11_rule_4 (by decide) ?_
  refine lv_icmp_lt (tgt := 11) hx hb dX11_rule_6 rfl (fun _ => ?_) (fun c9 => absurd (show nn k < nn 6 by rw [nn_lt (by omega) (by omega)]; exact hk) c9)
  refine lv_aload_n hx hb dX11_rule_11 rfl (lv_at hl 0 rfl) ?_
  refine va_get (ci := 11) (v := .ref (aR 0)) (C := RX11) (T := TX11) (N := 14) hx hb hts inlX11 hown hK hP 0 rfl rfl 2 (by decide) (hts _ mw_2_2) (fun _ h9 => h9) rfl dX11_rule_12 ?_
  refine mgV_iE (As := []) (rest := []) (wc := cRR aR yR (aT 0) code sumEnd testEnd size cn vals ++ cTp aT yT by9 len kind sign fault start stop) (wr := cLL aL yL (aT 0) zlr (aR 0) rls (nn k) zn im pst nx pc0 zh zo zp zs) (wf := cLL aL yL (aT 0) zlr (aR 0) rls (nn k) zn im pst nx pc0 zh zo zp zs ++ cTp aT yT by9 len k1 g1 f1 st1 sp1 ++ cRR aR yR (aT 0) code1 sumEnd1 testEnd1 size1 cn1 u1) S hK hP hD hS hA hE (c6_readText hrd) [4, 5, 6, 3] [6, 7, 8, 9, 4, 5] [0, 1, 2, 3] [0, 1, 2, 3, 8, 9, 4, 5, 6, 7] rfl rfl rfl (by decide) (by decide) (by decide) rfl (by decide) (gdV mw_22_21 mw_22_22 mw_22_23 mw_2_1 mw_23_0) rfl rfl hd_f6_readText ⟨Nat.le_of_ble_eq_true rfl, Nat.le_of_ble_eq_true rfl⟩ (ci := 6) (q0 := 0) rfl rfl rfl hl.1 rfl (Nat.le_of_ble_eq_true rfl) dX11_rule_15 ⟨Nat.le_of_ble_eq_true rfl, Nat.le_of_ble_eq_true rfl⟩ (fun H locs hP hD hS => ?_)
  refine lv_istore_n (lv' := [(1, .int 0), (0, .ref (aL 0))]) hx hb dX11_rule_18 rfl hl (by decide) rfl (fun ls hl => ?_)
  refine lv_aload_n hx hb dX11_rule_19 rfl (lv_at hl 1 rfl) ?_
  refine va_get (ci := 11) (v := .ref (aT 0)) (C := RX11) (T := TX11) (N := 14) hx hb hts inlX11 hown hK hP 0 rfl rfl 0 (by decide) (hts _ mw_1_18) (fun _ h9 => h9) rfl dX11_rule_20 ?_
  refine lv_iconst (v := (0 : Int32)) hx hb dX11_rule_23 (by decide) ?_
  refine va_put (ci := 9) (v := .int 0) (ty := .int) (C := RX9) (T := TX9) (N := 7) hx hb hts inlX9 tyX9 tyX9_ok nmX9 hown hK hP hD hS 4 rfl rfl 1 (by decide) (hts _ mw_8_6) (fun _ h9 => h9) rfl (by decide +kernel) rfl rfl (Nat.le_of_ble_eq_true rfl) dX11_rule_24 (fun H locs hP hD hS => ?_)
  replace hP : va_P D vwCl (cLL aL yL (aT 0) zlr (aR 0) rls (nn k) zn im pst nx pc0 zh zo zp zs ++ cTp aT yT by9 0 k1 g1 f1 st1 sp1 ++ cRR aR yR (aT 0) code1 sumEnd1 testEnd1 size1 cn1 u1) H := hP
  replace hD : va_D A (cLL aL yL (aT 0) zlr (aR 0) rls (nn k) zn im pst nx pc0 zh zo zp zs ++ cTp aT yT by9 0 k1 g1 f1 st1 sp1 ++ cRR aR yR (aT 0) code1 sumEnd1 testEnd1 size1 cn1 u1) := hD
  refine lv_iload_n hx hb dX11_rule_27 rfl (lv_at hl 0 rfl) ?_
  refine lv_if_ne (tgt := 42) hx hb dX11_rule_28 rfl (fun c9 => absurd rfl c9) (fun _ => ?_)
  refine lv_bipush (v := (-2 : Int32)) hx hb dX11_rule_31 (by decide) ?_
  refine lv_aload_n hx hb dX11_rule_33 rfl (lv_at hl 1 rfl) ?_
  refine va_get (ci := 11) (v := .ref (aT 0)) (C := RX11) (T := TX11) (N := 14) hx hb hts inlX11 hown hK hP 0 rfl rfl 0 (by decide) (hts _ mw_1_18) (fun _ h9 => h9) rfl dX11_rule_34 ?_
  refine va_get (ci := 9) (v := .int f1) (C := RX9) (T := TX9) (N := 7) hx hb hts inlX9 hown hK hP 4 rfl rfl 4 (by decide) (hts _ mw_9_9) (fun _ h9 => h9) rfl dX11_rule_37 ?_
  refine lv_isub hx hb dX11_rule_40 ?_
  refine W.widen (k := 5) (n := 1269) (Nat.le_of_ble_eq_true rfl) (Nat.le_of_ble_eq_true rfl) ?_
  exact hret _ _ _ _ _ _ _ ⟨rfl, rfl, rfl⟩ hK hP hD hS rfl dX11_rule_41
set_option maxHeartbeats 4000000 in
set_option maxRecDepth 100000 in
theorem c11_rule_ok {l : Launch} {D : va_G} {adK adV : Nat → Nat} {aL aT aR : Nat → Nat} {yL yT yR : Nat → ClassId} {zlr zn zh zo zp zs k : Nat} {rls im pst : Nat → Option Nat} {nx pc0 len kind sign fault start stop size cn vals u1 k1 g1 f1 st1 sp1 : Int32} {by9 code sumEnd testEnd code1 sumEnd1 testEnd1 : Nat → Int32} {sz nc : Nat} (hk : k < 6) (hsz : sz ≤ 400) (hnc : nc ≤ 12) (hrd : f6_readText code sumEnd testEnd size cn vals by9 len kind sign fault start stop = some (1, code1, sumEnd1, testEnd1, nn sz, nn nc, u1, k1, g1, f1, st1, sp1)) : MetT l yX11_rule cX11_rule 2 (some .int) rm_f11_rule D ([(yL 1, .object "LadderLand$Rule"), (yL 2, .object "LadderLand$State"), (yL 3, .object "LadderLand$World"), (yT 1, .int), (yR 1, .int), (yR 2, .int), (yR 3, .int)]) (cLL aL yL (aT 0) zlr (aR 0) rls (nn k) zn im pst nx pc0 zh zo zp zs ++ cTp aT yT by9 len kind sign fault start stop ++ cRR aR yR (aT 0) code sumEnd testEnd size cn vals) [.ref (aL 0)] adK adV 5 1269 (fun w t r => ∃ (q : Nat) (L : List Nat) (cy : Nat → ClassId) (g1' g2' g3' : Nat → Int32), w = cLL aL yL (aT 0) zlr (aR 0) (va_up rls k (some q)) (nn (k + 1)) zn im pst nx pc0 zh zo zp zs ++ cTp aT yT by9 0 k1 g1 f1 st1 sp1 ++ cRR aR yR (aT 0) code1 sumEnd1 testEnd1 (nn sz) (nn nc) u1 ++ cRu (adOf q L) cy sz g1' nc g2' nc g3' (fun _ => (0 : Int64)) 0 ∧ t = [(yL 1, .object "LadderLand$Rule"), (yL 2, .object "LadderLand$State"), (yL 3, .object "LadderLand$World"), (yT 1, .int), (yR 1, .int), (yR 2, .int), (yR 3, .int)] ++ [(cy 1, .int), (cy 2, .int), (cy 3, .int), (cy 4, .long)] ∧ r = nn k ∧ (∀ i, i < sz → g1' i = code1 i) ∧ (∀ i, i < nc → g2' i = sumEnd1 i) ∧ ∀ i, i < nc → g3' i = testEnd1 i) := by
  refine metT_of (own := RX11) rfl (by decide) (Nat.le_of_ble_eq_true rfl) ?_
  intro p e s m args below meth c A Q ls S hK hA hP hD hS hl hE hV hret
  obtain ⟨hx, hb, hml, hown, hts⟩ := id S
  replace hl : lv_has ls 2 [(0, .ref (aL 0))] := hl
  generalize hH : s.heap = H at hP ⊢
  replace hS : va_S A s.heap H [] := by rw [← hH]; exact hS
  generalize hlo : ([] : List Loc) = locs at hS ⊢
  refine lv_aload_n hx hb dX11_rule_0 rfl (lv_at hl 0 rfl) ?_
  refine va_get (ci := 11) (v := .int (nn k)) (C := RX11) (T := TX11) (N := 14) hx hb hts inlX11 hown hK hP 0 rfl rfl 4 (by decide) (hts _ mw_22_20) (fun _ h9 => h9) rfl dX11_rule_1 ?_
  refine lv_bipush (v := (6 : Int32)) hx hb dX11_rule_4 (by decide) ?_
  refine lv_icmp_lt (tgt := 11) hx hb dX11_rule_6 rfl (fun _ => ?_) (fun c9 => absurd (show nn k < nn 6 by rw [nn_lt (by omega) (by omega)]; exact hk) c9)
  refine lv_aload_n hx hb dX11_rule_11 rfl (lv_at hl 0 rfl) ?_
  refine va_get (ci := 11) (v := .ref (aR 0)) (C := RX11) (T := TX11) (N := 14) hx hb hts inlX11 hown hK hP 0 rfl rfl 2 (by decide) (hts _ mw_2_2) (fun _ h9 => h9) rfl dX11_rule_12 ?_
  refine mgV_iE (As := []) (rest := []) (wc := cRR aR yR (aT 0) code sumEnd testEnd size cn vals ++ cTp aT yT by9 len kind sign fault start stop) (wr := cLL aL yL (aT 0) zlr (aR 0) rls (nn k) zn im pst nx pc0 zh zo zp zs) (wf := cLL aL yL (aT 0) zlr (aR 0) rls (nn k) zn im pst nx pc0 zh zo zp zs ++ cTp aT yT by9 len k1 g1 f1 st1 sp1 ++ cRR aR yR (aT 0) code1 sumEnd1 testEnd1 (nn sz) (nn nc) u1) S hK hP hD hS hA hE (c6_readText hrd) [4, 5, 6, 3] [6, 7, 8, 9, 4, 5] [0, 1, 2, 3] [0, 1, 2, 3, 8, 9, 4, 5, 6, 7] rfl rfl rfl (by decide) (by decide) (by decide) rfl (by decide) (gdV mw_22_21 mw_22_22 mw_22_23 mw_2_1 mw_23_0) rfl rfl hd_f6_readText ⟨Nat.le_of_ble_eq_true rfl, Nat.le_of_ble_eq_true rfl⟩ (ci := 6) (q0 := 0) rfl rfl rfl hl.1 rfl (Nat.le_of_ble_eq_true rfl) dX11_rule_15 ⟨Nat.le_of_ble_eq_true rfl, Nat.le_of_ble_eq_true rfl⟩ (fun H locs hP hD hS => ?_)
  refine lv_istore_n (lv' := [(1, .int 1), (0, .ref (aL 0))]) hx hb dX11_rule_18 rfl hl (by decide) rfl (fun ls hl => ?_)
  refine lv_aload_n hx hb dX11_rule_19 rfl (lv_at hl 1 rfl) ?_
  refine va_get (ci := 11) (v := .ref (aT 0)) (C := RX11) (T := TX11) (N := 14) hx hb hts inlX11 hown hK hP 0 rfl rfl 0 (by decide) (hts _ mw_1_18) (fun _ h9 => h9) rfl dX11_rule_20 ?_
  refine lv_iconst (v := (0 : Int32)) hx hb dX11_rule_23 (by decide) ?_
  refine va_put (ci := 9) (v := .int 0) (ty := .int) (C := RX9) (T := TX9) (N := 7) hx hb hts inlX9 tyX9 tyX9_ok nmX9 hown hK hP hD hS 4 rfl rfl 1 (by decide) (hts _ mw_8_6) (fun _ h9 => h9) rfl (by decide +kernel) rfl rfl (Nat.le_of_ble_eq_true rfl) dX11_rule_24 (fun H locs hP hD hS => ?_)
  replace hP : va_P D vwCl (cLL aL yL (aT 0) zlr (aR 0) rls (nn k) zn im pst nx pc0 zh zo zp zs ++ cTp aT yT by9 0 k1 g1 f1 st1 sp1 ++ cRR aR yR (aT 0) code1 sumEnd1 testEnd1 (nn sz) (nn nc) u1) H := hP
  replace hD : va_D A (cLL aL yL (aT 0) zlr (aR 0) rls (nn k) zn im pst nx pc0 zh zo zp zs ++ cTp aT yT by9 0 k1 g1 f1 st1 sp1 ++ cRR aR yR (aT 0) code1 sumEnd1 testEnd1 (nn sz) (nn nc) u1) := hD
  refine lv_iload_n hx hb dX11_rule_27 rfl (lv_at hl 0 rfl) ?_
  refine lv_if_ne (tgt := 42) hx hb dX11_rule_28 rfl (fun _ => ?_) (fun c9 => absurd c9 (by decide))
  refine lv_aload_n hx hb dX11_rule_42 rfl (lv_at hl 1 rfl) ?_
  refine va_get (ci := 11) (v := .ref (aL 1)) (C := RX11) (T := TX11) (N := 14) hx hb hts inlX11 hown hK hP 0 rfl rfl 3 (by decide) (hts _ mw_2_4) (fun _ h9 => h9) rfl dX11_rule_43 ?_
  refine lv_aload_n hx hb dX11_rule_46 rfl (lv_at hl 1 rfl) ?_
  refine va_get (ci := 11) (v := .int (nn k)) (C := RX11) (T := TX11) (N := 14) hx hb hts inlX11 hown hK hP 0 rfl rfl 4 (by decide) (hts _ mw_22_20) (fun _ h9 => h9) rfl dX11_rule_47 ?_
  refine lv_aload_n hx hb dX11_rule_50 rfl (lv_at hl 1 rfl) ?_
  refine va_get (ci := 11) (v := .ref (aR 0)) (C := RX11) (T := TX11) (N := 14) hx hb hts inlX11 hown hK hP 0 rfl rfl 2 (by decide) (hts _ mw_2_2) (fun _ h9 => h9) rfl dX11_rule_51 ?_
  refine mgN_V (As := []) (rest := [.int (nn k), .ref (aL 1)]) (wc := cRR aR yR (aT 0) code1 sumEnd1 testEnd1 (nn sz) (nn nc) u1) (wr := cLL aL yL (aT 0) zlr (aR 0) rls (nn k) zn im pst nx pc0 zh zo zp zs ++ cTp aT yT by9 0 k1 g1 f1 st1 sp1) S hK hP hD hS hA (c6_made (l := l) (D := D) hsz hnc) [4, 5, 6] [6, 7, 8, 9] [0, 1, 2, 3, 4, 5] rfl rfl rfl (by decide) (by decide) (by decide) EvC_blind (EvC_warm hV) (gdV mw_25_9 mw_25_10 mw_25_11 mw_2_1 mw_25_12) rfl rfl hd_f6_made ⟨Nat.le_of_ble_eq_true rfl, Nat.le_of_ble_eq_true rfl⟩ (ci := 6) (q0 := 0) rfl rfl rfl hl.1 rfl (Nat.le_of_ble_eq_true rfl) dX11_rule_54 ⟨Nat.le_of_ble_eq_true rfl, Nat.le_of_ble_eq_true rfl⟩ (fun w1 t1 q H locs hZ hK hP hD hS => ?_)
  obtain ⟨L, cy, g1', g2', g3', rfl, rfl, hg1, hg2, hg3⟩ := hZ
  refine W.widen (k := 5) (n := 1269) (Nat.le_refl _) (Nat.le_refl _) ?_
  replace hP : va_P D vwCl (cLL aL yL (aT 0) zlr (aR 0) rls (nn k) zn im pst nx pc0 zh zo zp zs ++ cTp aT yT by9 0 k1 g1 f1 st1 sp1 ++ cRR aR yR (aT 0) code1 sumEnd1 testEnd1 (nn sz) (nn nc) u1 ++ cRu (adOf q L) cy sz g1' nc g2' nc g3' (fun _ => (0 : Int64)) 0) H := hP
  replace hD : va_D A (cLL aL yL (aT 0) zlr (aR 0) rls (nn k) zn im pst nx pc0 zh zo zp zs ++ cTp aT yT by9 0 k1 g1 f1 st1 sp1 ++ cRR aR yR (aT 0) code1 sumEnd1 testEnd1 (nn sz) (nn nc) u1 ++ cRu (adOf q L) cy sz g1' nc g2' nc g3' (fun _ => (0 : Int64)) 0) := hD
  refine va_astq (r := (RX5, TX5, 5)) hx hb hK hP hD hS 1 0 10 5 rfl rfl rfl rfl (vin_lit (j := k) (nn_nat (by omega)) (nlt0 (by omega)) hk) dX11_rule_57 (fun H locs hP hD hS => ?_)
  rw [nn_nat (by omega)] at hP hD
  replace hP : va_P D vwCl (cLL aL yL (aT 0) zlr (aR 0) (va_up rls k (some q)) (nn k) zn im pst nx pc0 zh zo zp zs ++ cTp aT yT by9 0 k1 g1 f1 st1 sp1 ++ cRR aR yR (aT 0) code1 sumEnd1 testEnd1 (nn sz) (nn nc) u1 ++ cRu (adOf q L) cy sz g1' nc g2' nc g3' (fun _ => (0 : Int64)) 0) H := hP
  replace hD : va_D A (cLL aL yL (aT 0) zlr (aR 0) (va_up rls k (some q)) (nn k) zn im pst nx pc0 zh zo zp zs ++ cTp aT yT by9 0 k1 g1 f1 st1 sp1 ++ cRR aR yR (aT 0) code1 sumEnd1 testEnd1 (nn sz) (nn nc) u1 ++ cRu (adOf q L) cy sz g1' nc g2' nc g3' (fun _ => (0 : Int64)) 0) := hD
  refine lv_aload_n hx hb dX11_rule_58 rfl (lv_at hl 1 rfl) ?_
  refine lv_dup hx hb dX11_rule_59 rfl ?_
  refine va_get (ci := 11) (v := .int (nn k)) (C := RX11) (T := TX11) (N := 14) hx hb hts inlX11 hown hK hP 0 rfl rfl 4 (by decide) (hts _ mw_22_20) (fun _ h9 => h9) rfl dX11_rule_60 ?_
  refine lv_iconst (v := (1 : Int32)) hx hb dX11_rule_63 (by decide) ?_
  refine lv_iadd hx hb dX11_rule_64 ?_
  rw [nn_succ]
  refine va_put (ci := 11) (v := .int (nn (k + 1))) (ty := .int) (C := RX11) (T := TX11) (N := 14) hx hb hts inlX11 tyX11 tyX11_ok nmX11 hown hK hP hD hS 0 rfl rfl 4 (by decide) (hts _ mw_22_20) (fun _ h9 => h9) rfl (by decide +kernel) rfl rfl (Nat.le_of_ble_eq_true rfl) dX11_rule_65 (fun H locs hP hD hS => ?_)
  replace hP : va_P D vwCl (cLL aL yL (aT 0) zlr (aR 0) (va_up rls k (some q)) (nn (k + 1)) zn im pst nx pc0 zh zo zp zs ++ cTp aT yT by9 0 k1 g1 f1 st1 sp1 ++ cRR aR yR (aT 0) code1 sumEnd1 testEnd1 (nn sz) (nn nc) u1 ++ cRu (adOf q L) cy sz g1' nc g2' nc g3' (fun _ => (0 : Int64)) 0) H := hP
  replace hD : va_D A (cLL aL yL (aT 0) zlr (aR 0) (va_up rls k (some q)) (nn (k + 1)) zn im pst nx pc0 zh zo zp zs ++ cTp aT yT by9 0 k1 g1 f1 st1 sp1 ++ cRR aR yR (aT 0) code1 sumEnd1 testEnd1 (nn sz) (nn nc) u1 ++ cRu (adOf q L) cy sz g1' nc g2' nc g3' (fun _ => (0 : Int64)) 0) := hD
  refine lv_aload_n hx hb dX11_rule_68 rfl (lv_at hl 1 rfl) ?_
  refine va_get (ci := 11) (v := .int (nn (k + 1))) (C := RX11) (T := TX11) (N := 14) hx hb hts inlX11 hown hK hP 0 rfl rfl 4 (by decide) (hts _ mw_22_20) (fun _ h9 => h9) rfl dX11_rule_69 ?_
  refine lv_iconst (v := (1 : Int32)) hx hb dX11_rule_72 (by decide) ?_
  refine lv_isub hx hb dX11_rule_73 ?_
  rw [nn_pred']
  exact hret _ _ _ _ _ _ _ ⟨q, L, cy, g1', g2', g3', rfl, rfl, rfl, hg1, hg2, hg3⟩ hK hP hD hS rfl dX11_rule_74

