set_option maxHeartbeats 4000000 in
set_option maxRecDepth 100000 in
theorem i11_past {l : Launch} {D : va_G} {p : Program} {e : Env} {s : State} {m : MethodId} {args : Array Value} {below : List Frame} {meth : Method} {c : Code} {A : Nat → Prop} {Q : State → Prop} {a0 b1 q1 q2 q3 c0 s0 : Nat} {cR cI cP : ClassId} {fs : List Value} {R0 : va_W} {T0 : List (ClassId × FieldType)} {rls im : Nat → Option Nat}
    (S : CallFix p m c cX11_init 3 s args wsL_law RX11) (hA : ∀ q, s.heap.size ≤ q → A q) (hfs : fs[7]? = some (.ref q3)) (hI : (cP, FieldType.object "LadderLand$World") ∈ T0) (hc0 : c0 + 120 ≤ 240) (hs0 : s0 + 660 ≤ 2600)
    (kk : ∀ (ls : Array Slot) (H : Heap) (locs : List Loc) (pst : Nat → Option Nat) (A2 : Nat → Nat → Nat) (C2 : Nat → Nat → ClassId), lv_has ls 3 [(2, .int 20), (0, .ref a0), (1, .ref b1)] → (∀ k, k < 20 → pst k = some (A2 k 0)) → va_K D vwCl (T0 ++ (List.range 20).flatMap (fun k => kWo_t (C2 k))) s → va_P D vwCl ([(a0, .inr (11, fs)), (q1, .inl (cR, 6, .inr (.inr (.inr (.inr rls))))), (q2, .inl (cI, 4, .inr (.inr (.inr (.inr im))))), (q3, .inl (cP, 20, .inr (.inr (.inr (.inr pst)))))] ++ (R0 ++ (List.range 20).flatMap (fun k => kWo b1 (A2 k) (C2 k)))) H → va_D A ([(a0, .inr (11, fs)), (q1, .inl (cR, 6, .inr (.inr (.inr (.inr rls))))), (q2, .inl (cI, 4, .inr (.inr (.inr (.inr im))))), (q3, .inl (cP, 20, .inr (.inr (.inr (.inr pst)))))] ++ (R0 ++ (List.range 20).flatMap (fun k => kWo b1 (A2 k) (C2 k)))) → va_S A s.heap H locs → W p l e rm_i11 s m args below meth c H locs (c0 + 120) (s0 + 660) Q (F0 m 146 ls [])) :
    ∀ (d i : Nat), i + d = 20 → ∀ (ls : Array Slot) (H : Heap) (locs : List Loc) (pst : Nat → Option Nat) (A2 : Nat → Nat → Nat) (C2 : Nat → Nat → ClassId), lv_has ls 3 [(2, .int (nn i)), (0, .ref a0), (1, .ref b1)] → (∀ k, k < i → pst k = some (A2 k 0)) → va_K D vwCl (T0 ++ (List.range i).flatMap (fun k => kWo_t (C2 k))) s → va_P D vwCl ([(a0, .inr (11, fs)), (q1, .inl (cR, 6, .inr (.inr (.inr (.inr rls))))), (q2, .inl (cI, 4, .inr (.inr (.inr (.inr im))))), (q3, .inl (cP, 20, .inr (.inr (.inr (.inr pst)))))] ++ (R0 ++ (List.range i).flatMap (fun k => kWo b1 (A2 k) (C2 k)))) H → va_D A ([(a0, .inr (11, fs)), (q1, .inl (cR, 6, .inr (.inr (.inr (.inr rls))))), (q2, .inl (cI, 4, .inr (.inr (.inr (.inr im))))), (q3, .inl (cP, 20, .inr (.inr (.inr (.inr pst)))))] ++ (R0 ++ (List.range i).flatMap (fun k => kWo b1 (A2 k) (C2 k)))) → va_S A s.heap H locs → W p l e rm_i11 s m args below meth c H locs (c0 + 6 * i) (s0 + 33 * i) Q (F0 m 120 ls []) := by
  obtain ⟨hx, hb, hml, hown, hts⟩ := id S
  intro d
  induction d with
  | zero =>
    intro i hi ls H locs pst A2 C2 hl him hK hP hD hS
    obtain rfl : i = 20 := by omega
    refine lv_iload_n hx hb dX11_init_120 rfl (lv_at hl 0 rfl) ?_
    refine lv_bipush (v := (20 : Int32)) hx hb dX11_init_121 (by decide) ?_
    refine lv_icmp_ge (tgt := 146) hx hb dX11_init_123 rfl (fun _ => ?_) (fun c9 => absurd (by decide) c9)
    exact kk ls H locs pst A2 C2 hl him hK hP hD hS
  | succ d ih =>
    intro i hi ls H locs pst A2 C2 hl him hK hP hD hS
    have hi4 : i < 20 := by omega
    refine lv_iload_n hx hb dX11_init_120 rfl (lv_at hl 0 rfl) ?_
    refine lv_bipush (v := (20 : Int32)) hx hb dX11_init_121 (by decide) ?_
    refine lv_icmp_ge (tgt := 146) hx hb dX11_init_123 rfl (fun c9 => absurd c9 (by rw [show (20 : Int32) = nn 20 from rfl]; exact nle (a := 20) (b := i) (by omega) (by omega) (by omega))) (fun _ => ?_)
    refine lv_aload_n hx hb dX11_init_126 rfl (lv_at hl 1 rfl) ?_
    refine va_get (ci := 11) (v := .ref q3) (C := RX11) (T := TX11) (N := 14) hx hb hts inlX11 hown hK hP 0 rfl rfl 7 (by decide) (hts _ mw_2_11) (fun _ h9 => h9) hfs dX11_init_127 ?_
    refine lv_iload_n hx hb dX11_init_130 rfl (lv_at hl 0 rfl) ?_
    refine va_new (ci := 10) (fs := [.null, .int 0, .int 0, .null, .null, .null, .null, .null]) (C := RX10) (T := TX10) (N := 8) hx hb hts inlX10 tyX10 tyX10_ok hown (hts _ mw_2_10) (hts _ mw_2_12) (hts _ mw_2_13) hK hP hD hS hA rfl (fun j hj => by rcases (show j = 0 ∨ j = 1 ∨ j = 2 ∨ j = 3 ∨ j = 4 ∨ j = 5 ∨ j = 6 ∨ j = 7 by omega) with rfl | rfl | rfl | rfl | rfl | rfl | rfl | rfl <;> rfl) (show c0 + 6 * i + 1 ≤ 240 by omega) (show s0 + 33 * i + 8 ≤ 2600 by omega) dX11_init_131 (fun q H hP hD hS => ?_)
    refine lv_dup hx hb dX11_init_134 rfl ?_
    refine lv_aload_n hx hb dX11_init_135 rfl (lv_at hl 2 rfl) ?_
    refine mIb (As := [.ref b1]) (rest := [.ref q, .int (nn i), .ref q3]) S hK hP hD hS hA (i10 (l := l) (D := D)) mw_5_3 mw_2_13 mw_5_11 mw_5_2 rfl rfl rfl hd_i10_init ⟨Nat.le_of_ble_eq_true rfl, Nat.le_of_ble_eq_true rfl⟩ rfl hl.1 rfl (Nat.le_of_ble_eq_true rfl) dX11_init_136 ⟨show c0 + 6 * i + 1 + 5 ≤ 240 by omega, show s0 + 33 * i + 8 + 25 ≤ 2600 by omega⟩ (fun w1 t1 H locs hZ hK hP hD hS => ?_)
    obtain ⟨L2, cy2, rfl, rfl⟩ := hZ
    have hb9 : (List.range (i + 1)).flatMap (fun k => kWo b1 (ff A2 i (adOf q L2) k) (ff C2 i cy2 k)) = (List.range i).flatMap (fun k => kWo b1 (A2 k) (C2 k)) ++ kWo b1 (adOf q L2) cy2 := by
      rw [List.range_succ, List.flatMap_append, fm_congr (List.range i) (g := (fun k => kWo b1 (A2 k) (C2 k))) (fun j hj => by
        have hji := List.mem_range.mp hj
        rw [ff_ne (by omega), ff_ne (by omega)]), List.flatMap_cons, List.flatMap_nil, List.append_nil, ff_at, ff_at]
    have ht9 : (List.range (i + 1)).flatMap (fun k => kWo_t (ff C2 i cy2 k)) = (List.range i).flatMap (fun k => kWo_t (C2 k)) ++ kWo_t cy2 := by
      rw [List.range_succ, List.flatMap_append, fm_congr (List.range i) (g := (fun k => kWo_t (C2 k))) (fun j hj => by
        have hji := List.mem_range.mp hj
        rw [ff_ne (by omega)]), List.flatMap_cons, List.flatMap_nil, List.append_nil, ff_at]
    replace hK : va_K D vwCl (T0 ++ (List.range (i + 1)).flatMap (fun k => kWo_t (ff C2 i cy2 k))) s := by
      rw [ht9, ← List.append_assoc]; exact hK
    replace hP : va_P D vwCl ([(a0, .inr (11, fs)), (q1, .inl (cR, 6, .inr (.inr (.inr (.inr rls))))), (q2, .inl (cI, 4, .inr (.inr (.inr (.inr im))))), (q3, .inl (cP, 20, .inr (.inr (.inr (.inr pst)))))] ++ (R0 ++ (List.range (i + 1)).flatMap (fun k => kWo b1 (ff A2 i (adOf q L2) k) (ff C2 i cy2 k)))) H := by
      rw [hb9, apn]; exact hP
    replace hD : va_D A ([(a0, .inr (11, fs)), (q1, .inl (cR, 6, .inr (.inr (.inr (.inr rls))))), (q2, .inl (cI, 4, .inr (.inr (.inr (.inr im))))), (q3, .inl (cP, 20, .inr (.inr (.inr (.inr pst)))))] ++ (R0 ++ (List.range (i + 1)).flatMap (fun k => kWo b1 (ff A2 i (adOf q L2) k) (ff C2 i cy2 k)))) := by
      rw [hb9, apn]; exact hD
    obtain ⟨t0, ht0⟩ := List.mem_iff_getElem?.mp (List.mem_append_left ((List.range (i + 1)).flatMap (fun k => kWo_t (ff C2 i cy2 k))) hI)
    obtain ⟨qk, hqk⟩ : ∃ k, ([(a0, .inr (11, fs)), (q1, .inl (cR, 6, .inr (.inr (.inr (.inr rls))))), (q2, .inl (cI, 4, .inr (.inr (.inr (.inr im))))), (q3, .inl (cP, 20, .inr (.inr (.inr (.inr pst)))))] ++ (R0 ++ (List.range (i + 1)).flatMap (fun k => kWo b1 (ff A2 i (adOf q L2) k) (ff C2 i cy2 k))) : va_W)[k]? = some ((q, .inr (10, [.ref b1, .int 0, .int 0, .ref (adOf q L2 1), .ref (adOf q L2 2), .ref (adOf q L2 3), .ref (adOf q L2 4), .ref (adOf q L2 5)])) : Nat × va_E) := by
      refine List.mem_iff_getElem?.mp (List.mem_append_right _ (List.mem_append_right _ ?_))
      rw [hb9]
      exact List.mem_append_right _ List.mem_cons_self
    refine va_astq (r := (RX10, TX10, 8)) hx hb hK hP hD hS 3 t0 qk 10 rfl ht0 hqk rfl (vin_lit (j := i) (nn_nat (by omega)) (nlt0 (by omega)) hi4) dX11_init_139 (fun H locs hP hD hS => ?_)
    rw [nn_nat (by omega)] at hP hD
    refine lv_iinc (v := nn (i + 1)) (lv' := [(2, .int (nn (i + 1))), (0, .ref a0), (1, .ref b1)]) hx hb dX11_init_140 hl (k := 0) rfl (nn_succ i) (by decide) rfl (fun ls hl => ?_)
    refine lv_goto (tgt := 120) hx hb dX11_init_143 rfl ?_
    have hgo := ih (i + 1) (by omega) ls H locs (va_up pst i (some q)) _ _ hl (fun k hk => ?_) hK hP hD hS
    · rw [show c0 + 6 * (i + 1) = c0 + 6 * i + 1 + 5 by omega, show s0 + 33 * (i + 1) = s0 + 33 * i + 8 + 25 by omega] at hgo
      exact hgo
    · by_cases h : k = i
      · subst h
        rw [ff_at]
        exact if_pos rfl
      · rw [ff_ne h]
        exact (if_neg h).trans (him k (by omega))
