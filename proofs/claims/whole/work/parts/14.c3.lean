/-! LadderLand$Tape.wordIn(Ljava/lang/String;)I  -/
def f9_wordIn_J99 (z_this_start : Int32) (v2_11 : Int32) (v5_12 : Int32) : Option ((Int32 × Int32 × Int32 × Int32) ⊕ ((Int32) ⊕ (Unit))) :=
lt (v2_11 + (1 : Int32)) (fun v2_27 =>
lt (v5_12 + (1 : Int32)) (fun v5_28 =>
some (.inl (v2_27, z_this_start, (1 : Int32), v5_28))))

def f9_wordIn_J76 (v2_21 : Int32) (v3_22 : Int32) (v5_23 : Int32) (t0_24 : Int32) : Option ((Int32 × Int32 × Int32 × Int32) ⊕ ((Int32) ⊕ (Unit))) :=
lt (v3_22 + (1 : Int32)) (fun v3_25 =>
lt (v5_23 + (1 : Int32)) (fun v5_26 =>
some (.inl (v2_21, v3_25, t0_24, v5_26))))

def f9_wordIn_J75 (v2_15 : Int32) (v3_16 : Int32) (v5_17 : Int32) : Option ((Int32 × Int32 × Int32 × Int32) ⊕ ((Int32) ⊕ (Unit))) :=
f9_wordIn_J76 v2_15 v3_16 v5_17 (0 : Int32)

def f9_wordIn_B23 (s1 : Nat) (z_this_start : Int32) (z_this_stop : Int32) (z_this_bytes : Nat → Int32) (v2_2 : Int32) (v3_3 : Int32) (v4_4 : Int32) (v5_5 : Int32) : Option ((Int32 × Int32 × Int32 × Int32) ⊕ ((Int32) ⊕ (Unit))) :=
if (Int32.ofNat (strL s1)) ≤ v5_5 then (some (.inr (.inr ()))) else (if v5_5 < 0 ∨ strL s1 ≤ Int32.toNatClampNeg v5_5 then none else (
lt ((strC s1 (Int32.toNatClampNeg v5_5))) (fun x_8 =>
if x_8 = (32 : Int32) then (if v4_4 = 0 then (f9_wordIn_J99 z_this_start v2_2 v5_5) else (if v3_3 = z_this_stop then (some (.inr (.inl v2_2))) else (f9_wordIn_J99 z_this_start v2_2 v5_5))) else (if v4_4 = 0 then (f9_wordIn_J75 v2_2 v3_3 v5_5) else (if z_this_stop ≤ v3_3 then (f9_wordIn_J75 v2_2 v3_3 v5_5) else (if v3_3 < 0 ∨ 400 ≤ Int32.toNatClampNeg v3_3 then none else (
if (z_this_bytes (Int32.toNatClampNeg v3_3)) = x_8 then (f9_wordIn_J76 v2_2 v3_3 v5_5 (1 : Int32)) else (f9_wordIn_J75 v2_2 v3_3 v5_5))))))))

def f9_wordIn (z_this_bytes : Nat → Int32) (z_this_kind : Int32) (z_this_start : Int32) (z_this_stop : Int32) (s1 : Nat) : Option (Int32) :=
if z_this_kind = (1 : Int32) then (bndS0 (iter (fun (z : Int32 × Int32 × Int32 × Int32) => f9_wordIn_B23 s1 z_this_start z_this_stop z_this_bytes z.1 z.2.1 z.2.2.1 z.2.2.2) FUEL ((0 : Int32), z_this_start, (1 : Int32), (0 : Int32))) (fun q23 => some q23) (
some (-1 : Int32))) else (some (-1 : Int32))

abbrev rm_f9_wordIn : Room := { frames := 5, cells := 0, slots := 0, locals := 102 }
theorem hd_f9_wordIn : yX9_wordIn.cls = RX9 ∧ yX9_wordIn.cls ≠ "java/lang/invoke/MethodHandle" ∧ yX9_wordIn.cls ≠ "java/lang/invoke/VarHandle" ∧ (parseMethodDescriptor yX9_wordIn.desc).map (fun d => d.parameters.length) = some 1 := by decide +kernel
set_option maxHeartbeats 4000000 in
set_option maxRecDepth 100000 in
theorem c9_wordIn {l : Launch} {D : va_G} {adK : Nat → Nat} {adV : Nat → Nat} {ad_this : Nat → Nat} {cy_this : Nat → ClassId} {z_this_bytes : Nat → Int32} {z_this_length : Int32} {z_this_kind : Int32} {z_this_sign : Int32} {z_this_fault : Int32} {z_this_start : Int32} {z_this_stop : Int32} {s1 : Nat} {o_ret : Int32} (h : f9_wordIn z_this_bytes z_this_kind z_this_start z_this_stop s1 = some o_ret) (hs1 : s1 < 7) : MetIE l yX9_wordIn cX9_wordIn 7 (some .int) rm_f9_wordIn D ([(cy_this 1, .int)]) (cTp ad_this cy_this z_this_bytes z_this_length z_this_kind z_this_sign z_this_fault z_this_start z_this_stop) (cTp ad_this cy_this z_this_bytes z_this_length z_this_kind z_this_sign z_this_fault z_this_start z_this_stop) [.ref (ad_this 0), .ref (adK s1)] adK adV o_ret := by
  refine metIE_of (own := RX9) rfl (by decide) (Nat.le_of_ble_eq_true rfl) ?_
  intro p e s m args below meth c A Q ls S hK hA hP hD hS hl hE hret
  obtain ⟨hx, hb, hml, hown, hts⟩ := id S
  replace hl : lv_has ls 7 [(0, .ref (ad_this 0)), (1, .ref (adK s1))] := hl
  generalize hH : s.heap = H at hP ⊢
  replace hS : va_S A s.heap H [] := by rw [← hH]; exact hS
  generalize hlo : ([] : List Loc) = locs at hS ⊢
  unfold f9_wordIn at h
  refine lv_aload_n hx hb dX9_wordIn_0 rfl (lv_at hl 0 rfl) ?_
  refine va_get (ci := 9) (v := .int z_this_kind) (C := RX9) (T := TX9) (N := 7) hx hb hts inlX9 hown hK hP 0 rfl rfl 2 (by decide) (hts _ mw_10_5) (fun _ h9 => h9) rfl dX9_wordIn_1 ?_
  refine lv_iconst (v := (1 : Int32)) hx hb dX9_wordIn_4 (by decide) ?_
  refine lv_icmp_eq (tgt := 10) hx hb dX9_wordIn_5 rfl (fun c1 => ?_) (fun c1 => ?_)
  · replace h := ite_t c1 h
    refine lv_iconst (v := (0 : Int32)) hx hb dX9_wordIn_10 (by decide) ?_
    refine lv_istore_n (lv' := [(2, .int (0 : Int32)), (0, .ref (ad_this 0)), (1, .ref (adK s1))]) hx hb dX9_wordIn_11 rfl hl (by decide) rfl (fun ls hl => ?_)
    refine lv_aload_n hx hb dX9_wordIn_12 rfl (lv_at hl 1 rfl) ?_
    refine va_get (ci := 9) (v := .int z_this_start) (C := RX9) (T := TX9) (N := 7) hx hb hts inlX9 hown hK hP 0 rfl rfl 5 (by decide) (hts _ mw_10_4) (fun _ h9 => h9) rfl dX9_wordIn_13 ?_
    refine lv_istore_n (lv' := [(3, .int z_this_start), (2, .int (0 : Int32)), (0, .ref (ad_this 0)), (1, .ref (adK s1))]) hx hb dX9_wordIn_16 rfl hl (by decide) rfl (fun ls hl => ?_)
    refine lv_iconst (v := (1 : Int32)) hx hb dX9_wordIn_17 (by decide) ?_
    refine lv_istore (lv' := [(4, .int (1 : Int32)), (3, .int z_this_start), (2, .int (0 : Int32)), (0, .ref (ad_this 0)), (1, .ref (adK s1))]) hx hb dX9_wordIn_18 hl (by decide) rfl (fun ls hl => ?_)
    refine lv_iconst (v := (0 : Int32)) hx hb dX9_wordIn_20 (by decide) ?_
    refine lv_istore (lv' := [(5, .int (0 : Int32)), (4, .int (1 : Int32)), (3, .int z_this_start), (2, .int (0 : Int32)), (0, .ref (ad_this 0)), (1, .ref (adK s1))]) hx hb dX9_wordIn_21 hl (by decide) rfl (fun ls hl => ?_)
    have B23 : ∀ (v2_2 : Int32) (v3_3 : Int32) (v4_4 : Int32) (v5_5 : Int32) (r : (Int32 × Int32 × Int32 × Int32) ⊕ ((Int32) ⊕ (Unit))) (H : Heap) (locs : List Loc) (ls : Array Slot), f9_wordIn_B23 s1 z_this_start z_this_stop z_this_bytes v2_2 v3_3 v4_4 v5_5 = some r → va_P D vwCl (cTp ad_this cy_this z_this_bytes z_this_length z_this_kind z_this_sign z_this_fault z_this_start z_this_stop) H → va_D A (cTp ad_this cy_this z_this_bytes z_this_length z_this_kind z_this_sign z_this_fault z_this_start z_this_stop) → va_S A s.heap H locs → lv_has ls 7 [(0, .ref (ad_this 0)), (1, .ref (adK s1)), (2, .int v2_2), (3, .int v3_3), (4, .int v4_4), (5, .int v5_5)] → (∀ (v2_2 : Int32) (v3_3 : Int32) (v4_4 : Int32) (v5_5 : Int32), r = .inl (v2_2, v3_3, v4_4, v5_5) → ∀ (H : Heap) (locs : List Loc) (ls : Array Slot), va_P D vwCl (cTp ad_this cy_this z_this_bytes z_this_length z_this_kind z_this_sign z_this_fault z_this_start z_this_stop) H → va_D A (cTp ad_this cy_this z_this_bytes z_this_length z_this_kind z_this_sign z_this_fault z_this_start z_this_stop) → va_S A s.heap H locs → lv_has ls 7 [(0, .ref (ad_this 0)), (1, .ref (adK s1)), (2, .int v2_2), (3, .int v3_3), (4, .int v4_4), (5, .int v5_5)] → W p l e rm_f9_wordIn s m args below meth c H locs 0 0 Q (F0 m 23 ls [])) → (r = .inr (.inr ()) → ∀ (H : Heap) (locs : List Loc) (ls : Array Slot), va_P D vwCl (cTp ad_this cy_this z_this_bytes z_this_length z_this_kind z_this_sign z_this_fault z_this_start z_this_stop) H → va_D A (cTp ad_this cy_this z_this_bytes z_this_length z_this_kind z_this_sign z_this_fault z_this_start z_this_stop) → va_S A s.heap H locs → lv_has ls 7 [] → W p l e rm_f9_wordIn s m args below meth c H locs 0 0 Q (F0 m 116 ls [])) → (∀ q, r = .inr (.inl q) → q = o_ret) → W p l e rm_f9_wordIn s m args below meth c H locs 0 0 Q (F0 m 23 ls []) := by
      intro v2_2 v3_3 v4_4 v5_5 r H locs ls h hP hD hS hl kl kx kr
      unfold f9_wordIn_B23 at h
      have J99 : ∀ (v2_11 : Int32) (v5_12 : Int32) (H : Heap) (locs : List Loc) (ls : Array Slot), f9_wordIn_J99 z_this_start v2_11 v5_12 = some r → va_P D vwCl (cTp ad_this cy_this z_this_bytes z_this_length z_this_kind z_this_sign z_this_fault z_this_start z_this_stop) H → va_D A (cTp ad_this cy_this z_this_bytes z_this_length z_this_kind z_this_sign z_this_fault z_this_start z_this_stop) → va_S A s.heap H locs → lv_has ls 7 [(0, .ref (ad_this 0)), (1, .ref (adK s1)), (2, .int v2_11), (5, .int v5_12)] → W p l e rm_f9_wordIn s m args below meth c H locs 0 0 Q (F0 m 99 ls []) := by
        intro v2_11 v5_12 H locs ls h hP hD hS hl
        unfold f9_wordIn_J99 at h
        obtain ⟨v2_27, ev2_27, h⟩ := lt_el h
        refine lv_iinc (v := v2_27) (lv' := [(2, .int v2_27), (0, .ref (ad_this 0)), (1, .ref (adK s1)), (5, .int v5_12)]) hx hb dX9_wordIn_99 hl (k := 2) rfl (by rw [ev2_27]; rfl) (by decide) rfl (fun ls hl => ?_)
        refine lv_aload_n hx hb dX9_wordIn_102 rfl (lv_at hl 1 rfl) ?_
        refine va_get (ci := 9) (v := .int z_this_start) (C := RX9) (T := TX9) (N := 7) hx hb hts inlX9 hown hK hP 0 rfl rfl 5 (by decide) (hts _ mw_10_4) (fun _ h9 => h9) rfl dX9_wordIn_103 ?_
        refine lv_istore_n (lv' := [(3, .int z_this_start), (2, .int v2_27), (0, .ref (ad_this 0)), (1, .ref (adK s1)), (5, .int v5_12)]) hx hb dX9_wordIn_106 rfl hl (by decide) rfl (fun ls hl => ?_)
        refine lv_iconst (v := (1 : Int32)) hx hb dX9_wordIn_107 (by decide) ?_
        refine lv_istore (lv' := [(4, .int (1 : Int32)), (3, .int z_this_start), (2, .int v2_27), (0, .ref (ad_this 0)), (1, .ref (adK s1)), (5, .int v5_12)]) hx hb dX9_wordIn_108 hl (by decide) rfl (fun ls hl => ?_)
        obtain ⟨v5_28, ev5_28, h⟩ := lt_el h
        refine lv_iinc (v := v5_28) (lv' := [(5, .int v5_28), (4, .int (1 : Int32)), (3, .int z_this_start), (2, .int v2_27), (0, .ref (ad_this 0)), (1, .ref (adK s1))]) hx hb dX9_wordIn_110 hl (k := 5) rfl (by rw [ev5_28]; rfl) (by decide) rfl (fun ls hl => ?_)
        refine lv_goto (tgt := 23) hx hb dX9_wordIn_113 rfl ?_
        cases h
        exact kl _ _ _ _ rfl H locs ls hP hD hS (lv_sub hl [4, 5, 3, 2, 1, 0] rfl)
      have J76 : ∀ (v2_21 : Int32) (v3_22 : Int32) (v5_23 : Int32) (t0_24 : Int32) (H : Heap) (locs : List Loc) (ls : Array Slot), f9_wordIn_J76 v2_21 v3_22 v5_23 t0_24 = some r → va_P D vwCl (cTp ad_this cy_this z_this_bytes z_this_length z_this_kind z_this_sign z_this_fault z_this_start z_this_stop) H → va_D A (cTp ad_this cy_this z_this_bytes z_this_length z_this_kind z_this_sign z_this_fault z_this_start z_this_stop) → va_S A s.heap H locs → lv_has ls 7 [(0, .ref (ad_this 0)), (1, .ref (adK s1)), (2, .int v2_21), (3, .int v3_22), (5, .int v5_23)] → W p l e rm_f9_wordIn s m args below meth c H locs 0 0 Q (F0 m 76 ls [.int t0_24]) := by
        intro v2_21 v3_22 v5_23 t0_24 H locs ls h hP hD hS hl
        unfold f9_wordIn_J76 at h
        refine lv_istore (lv' := [(4, .int t0_24), (0, .ref (ad_this 0)), (1, .ref (adK s1)), (2, .int v2_21), (3, .int v3_22), (5, .int v5_23)]) hx hb dX9_wordIn_76 hl (by decide) rfl (fun ls hl => ?_)
        obtain ⟨v3_25, ev3_25, h⟩ := lt_el h
        refine lv_iinc (v := v3_25) (lv' := [(3, .int v3_25), (4, .int t0_24), (0, .ref (ad_this 0)), (1, .ref (adK s1)), (2, .int v2_21), (5, .int v5_23)]) hx hb dX9_wordIn_78 hl (k := 4) rfl (by rw [ev3_25]; rfl) (by decide) rfl (fun ls hl => ?_)
        refine lv_goto (tgt := 110) hx hb dX9_wordIn_81 rfl ?_
        obtain ⟨v5_26, ev5_26, h⟩ := lt_el h
        refine lv_iinc (v := v5_26) (lv' := [(5, .int v5_26), (3, .int v3_25), (4, .int t0_24), (0, .ref (ad_this 0)), (1, .ref (adK s1)), (2, .int v2_21)]) hx hb dX9_wordIn_110 hl (k := 5) rfl (by rw [ev5_26]; rfl) (by decide) rfl (fun ls hl => ?_)
        refine lv_goto (tgt := 23) hx hb dX9_wordIn_113 rfl ?_
        cases h
        exact kl _ _ _ _ rfl H locs ls hP hD hS (lv_sub hl [3, 4, 5, 1, 2, 0] rfl)
      have J75 : ∀ (v2_15 : Int32) (v3_16 : Int32) (v5_17 : Int32) (H : Heap) (locs : List Loc) (ls : Array Slot), f9_wordIn_J75 v2_15 v3_16 v5_17 = some r → va_P D vwCl (cTp ad_this cy_this z_this_bytes z_this_length z_this_kind z_this_sign z_this_fault z_this_start z_this_stop) H → va_D A (cTp ad_this cy_this z_this_bytes z_this_length z_this_kind z_this_sign z_this_fault z_this_start z_this_stop) → va_S A s.heap H locs → lv_has ls 7 [(0, .ref (ad_this 0)), (1, .ref (adK s1)), (2, .int v2_15), (3, .int v3_16), (5, .int v5_17)] → W p l e rm_f9_wordIn s m args below meth c H locs 0 0 Q (F0 m 75 ls []) := by
        intro v2_15 v3_16 v5_17 H locs ls h hP hD hS hl
        unfold f9_wordIn_J75 at h
        refine lv_iconst (v := (0 : Int32)) hx hb dX9_wordIn_75 (by decide) ?_
        exact J76 v2_15 v3_16 v5_17 (0 : Int32) H locs ls h hP hD hS (lv_sub hl [0, 1, 2, 3, 4] rfl)
      refine lv_iload hx hb dX9_wordIn_23 (lv_at hl 5 rfl) ?_
      refine lv_aload_n hx hb dX9_wordIn_25 rfl (lv_at hl 1 rfl) ?_
      refine mstr_i (As := []) (rest := [.int v5_5]) S hK hP hD hS hA hE hs1 (s_length hs1) (gdV mw_10_16 mw_10_17 mw_10_18 mw_10_19 mw_10_20) rfl rfl hd_s_length ⟨Nat.le_of_ble_eq_true rfl, Nat.le_of_ble_eq_true rfl⟩ rfl rfl hl.1 rfl (Nat.le_of_ble_eq_true rfl) dX9_wordIn_26 (fun H locs hP hD hS => ?_)
      refine lv_icmp_ge (tgt := 116) hx hb dX9_wordIn_29 rfl (fun c6 => ?_) (fun c6 => ?_)
      · replace h := ite_t c6 h
        cases h
        exact kx  rfl H locs ls hP hD hS (lv_sub hl [] rfl)
      · replace h := ite_f c6 h
        refine lv_aload_n hx hb dX9_wordIn_32 rfl (lv_at hl 1 rfl) ?_
        refine lv_iload hx hb dX9_wordIn_33 (lv_at hl 5 rfl) ?_
        obtain ⟨b7, h⟩ := bd_el h
        refine mstr_i (As := [.int v5_5]) (rest := []) S hK hP hD hS hA hE hs1 (s_charAt hs1 (fun q => b7 (Or.inl q)) (Nat.lt_of_not_le (fun q => b7 (Or.inr q)))) (gdV mw_11_4 mw_11_5 mw_11_6 mw_10_19 mw_11_7) rfl rfl hd_s_charAt ⟨Nat.le_of_ble_eq_true rfl, Nat.le_of_ble_eq_true rfl⟩ rfl rfl hl.1 rfl (Nat.le_of_ble_eq_true rfl) dX9_wordIn_35 (fun H locs hP hD hS => ?_)
        refine lv_topi (fun x_8 ex_8 => ?_)
        replace h := lt_ex ex_8 h
        refine lv_istore (lv' := [(6, .int x_8), (0, .ref (ad_this 0)), (1, .ref (adK s1)), (2, .int v2_2), (3, .int v3_3), (4, .int v4_4), (5, .int v5_5)]) hx hb dX9_wordIn_38 hl (by decide) rfl (fun ls hl => ?_)
        refine lv_iload hx hb dX9_wordIn_40 (lv_at hl 0 rfl) ?_
        refine lv_bipush (v := (32 : Int32)) hx hb dX9_wordIn_42 (by decide) ?_
        refine lv_icmp_eq (tgt := 84) hx hb dX9_wordIn_44 rfl (fun c9 => ?_) (fun c9 => ?_)
        · replace h := ite_t c9 h
          refine lv_iload hx hb dX9_wordIn_84 (lv_at hl 5 rfl) ?_
          refine lv_if_eq (tgt := 99) hx hb dX9_wordIn_86 rfl (fun c10 => ?_) (fun c10 => ?_)
          · replace h := ite_t c10 h
            exact J99 v2_2 v5_5 H locs ls h hP hD hS (lv_sub hl [1, 2, 3, 6] rfl)
          · replace h := ite_f c10 h
            refine lv_iload_n hx hb dX9_wordIn_89 rfl (lv_at hl 4 rfl) ?_
            refine lv_aload_n hx hb dX9_wordIn_90 rfl (lv_at hl 1 rfl) ?_
            refine va_get (ci := 9) (v := .int z_this_stop) (C := RX9) (T := TX9) (N := 7) hx hb hts inlX9 hown hK hP 0 rfl rfl 6 (by decide) (hts _ mw_9_23) (fun _ h9 => h9) rfl dX9_wordIn_91 ?_
            refine lv_icmp_ne (tgt := 99) hx hb dX9_wordIn_94 rfl (fun c13 => ?_) (fun c13 => ?_)
            · replace h := ite_f c13 h
              exact J99 v2_2 v5_5 H locs ls h hP hD hS (lv_sub hl [1, 2, 3, 6] rfl)
            · replace h := ite_t c13 h
              refine lv_iload_n hx hb dX9_wordIn_97 rfl (lv_at hl 3 rfl) ?_
              cases h
              obtain e_0 := jnj1 (kr _ rfl)
              subst e_0
              exact hret _ _ _ _ _ hP hD hS rfl rfl dX9_wordIn_98
        · replace h := ite_f c9 h
          refine lv_iload hx hb dX9_wordIn_47 (lv_at hl 5 rfl) ?_
          refine lv_if_eq (tgt := 75) hx hb dX9_wordIn_49 rfl (fun c14 => ?_) (fun c14 => ?_)
          · replace h := ite_t c14 h
            exact J75 v2_2 v3_3 v5_5 H locs ls h hP hD hS (lv_sub hl [1, 2, 3, 4, 6] rfl)
          · replace h := ite_f c14 h
            refine lv_iload_n hx hb dX9_wordIn_52 rfl (lv_at hl 4 rfl) ?_
            refine lv_aload_n hx hb dX9_wordIn_53 rfl (lv_at hl 1 rfl) ?_
            refine va_get (ci := 9) (v := .int z_this_stop) (C := RX9) (T := TX9) (N := 7) hx hb hts inlX9 hown hK hP 0 rfl rfl 6 (by decide) (hts _ mw_9_23) (fun _ h9 => h9) rfl dX9_wordIn_54 ?_
            refine lv_icmp_ge (tgt := 75) hx hb dX9_wordIn_57 rfl (fun c18 => ?_) (fun c18 => ?_)
            · replace h := ite_t c18 h
              exact J75 v2_2 v3_3 v5_5 H locs ls h hP hD hS (lv_sub hl [1, 2, 3, 4, 6] rfl)
            · replace h := ite_f c18 h
              refine lv_aload_n hx hb dX9_wordIn_60 rfl (lv_at hl 1 rfl) ?_
              refine va_get (ci := 9) (v := .ref (ad_this 1)) (C := RX9) (T := TX9) (N := 7) hx hb hts inlX9 hown hK hP 0 rfl rfl 0 (by decide) (hts _ mw_4_1) (fun _ h9 => h9) rfl dX9_wordIn_61 ?_
              refine lv_iload_n hx hb dX9_wordIn_64 rfl (lv_at hl 4 rfl) ?_
              obtain ⟨b19, h⟩ := bd_el h
              refine va_iald hx hb hK hP 1 0 rfl rfl b19 dX9_wordIn_65 ?_
              refine lv_iload hx hb dX9_wordIn_66 (lv_at hl 0 rfl) ?_
              refine lv_icmp_ne (tgt := 75) hx hb dX9_wordIn_68 rfl (fun c20 => ?_) (fun c20 => ?_)
              · replace h := ite_f c20 h
                exact J75 v2_2 v3_3 v5_5 H locs ls h hP hD hS (lv_sub hl [1, 2, 3, 4, 6] rfl)
              · replace h := ite_t c20 h
                refine lv_iconst (v := (1 : Int32)) hx hb dX9_wordIn_71 (by decide) ?_
                refine lv_goto (tgt := 76) hx hb dX9_wordIn_72 rfl ?_
                exact J76 v2_2 v3_3 v5_5 (1 : Int32) H locs ls h hP hD hS (lv_sub hl [1, 2, 3, 4, 6] rfl)
    have L23 : ∀ (n : Nat) (v2_2 : Int32) (v3_3 : Int32) (v4_4 : Int32) (v5_5 : Int32) (e23 : (Int32) ⊕ (Unit)) (H : Heap) (locs : List Loc) (ls : Array Slot), iter (fun (z : Int32 × Int32 × Int32 × Int32) => f9_wordIn_B23 s1 z_this_start z_this_stop z_this_bytes z.1 z.2.1 z.2.2.1 z.2.2.2) n (v2_2, v3_3, v4_4, v5_5) = some e23 → va_P D vwCl (cTp ad_this cy_this z_this_bytes z_this_length z_this_kind z_this_sign z_this_fault z_this_start z_this_stop) H → va_D A (cTp ad_this cy_this z_this_bytes z_this_length z_this_kind z_this_sign z_this_fault z_this_start z_this_stop) → va_S A s.heap H locs → lv_has ls 7 [(0, .ref (ad_this 0)), (1, .ref (adK s1)), (2, .int v2_2), (3, .int v3_3), (4, .int v4_4), (5, .int v5_5)] → (e23 = (.inr ()) → ∀ (H : Heap) (locs : List Loc) (ls : Array Slot), va_P D vwCl (cTp ad_this cy_this z_this_bytes z_this_length z_this_kind z_this_sign z_this_fault z_this_start z_this_stop) H → va_D A (cTp ad_this cy_this z_this_bytes z_this_length z_this_kind z_this_sign z_this_fault z_this_start z_this_stop) → va_S A s.heap H locs → lv_has ls 7 [] → W p l e rm_f9_wordIn s m args below meth c H locs 0 0 Q (F0 m 116 ls [])) → (∀ q, e23 = .inl q → q = o_ret) → W p l e rm_f9_wordIn s m args below meth c H locs 0 0 Q (F0 m 23 ls []) := by
      intro n
      induction n with
      | zero => intro v2_2 v3_3 v4_4 v5_5 e23 H locs ls h; exact (iter_0 h).elim
      | succ n ih =>
        intro v2_2 v3_3 v4_4 v5_5 e23 H locs ls h hP hD hS hl kx kr
        obtain ⟨r, hb9, hor⟩ := iter_el h
        refine B23 v2_2 v3_3 v4_4 v5_5 r H locs ls hb9 hP hD hS hl ?_ ?_ ?_
        · intro v2_2' v3_3' v4_4' v5_5' er H locs ls hP hD hS hl
          subst er
          rcases hor with ⟨s', e', hi⟩ | e'
          · cases e'; exact ih _ _ _ _ _ H locs ls hi hP hD hS hl kx kr
          · cases e'
        · intro  er H locs ls hP hD hS hl
          subst er
          rcases hor with ⟨s', e', hi⟩ | e'
          · cases e'
          · cases e'; exact kx rfl H locs ls hP hD hS hl
        · intro q er
          subst er
          rcases hor with ⟨s', e', hi⟩ | e'
          · cases e'
          · cases e'; exact kr _ rfl
    rcases bndS0_el h with ⟨q23, hi23, h⟩ | ⟨hi23, h⟩
    · refine L23 FUEL (0 : Int32) z_this_start (1 : Int32) (0 : Int32) _ H locs ls hi23 hP hD hS (lv_sub hl [4, 5, 3, 2, 1, 0] rfl) ?_ ?_
      · intro  er; cases er
      · intro q er; cases er; exact Option.some.inj h
    refine L23 FUEL (0 : Int32) z_this_start (1 : Int32) (0 : Int32) _ H locs ls hi23 hP hD hS (lv_sub hl [4, 5, 3, 2, 1, 0] rfl) ?_ (fun q er => by cases er)
    intro  er H locs ls hP hD hS hl
    cases er
    refine lv_iconst (v := (-1 : Int32)) hx hb dX9_wordIn_116 (by decide) ?_
    obtain e_0 := inj1 h
    subst e_0
    exact hret _ _ _ _ _ hP hD hS rfl rfl dX9_wordIn_117
  · replace h := ite_f c1 h
    refine lv_iconst (v := (-1 : Int32)) hx hb dX9_wordIn_8 (by decide) ?_
    obtain e_0 := inj1 h
    subst e_0
    exact hret _ _ _ _ _ hP hD hS rfl rfl dX9_wordIn_9
/-! LadderLand$Tape.isAtWord(Ljava/lang/String;)Z  -/
def f9_isAtWord (z_this_bytes : Nat → Int32) (z_this_kind : Int32) (z_this_start : Int32) (z_this_stop : Int32) (s1 : Nat) : Option (Int32) :=
bnd1 (f9_wordIn z_this_bytes z_this_kind z_this_start z_this_stop s1) (fun r_1 =>
if r_1 = 0 then (some (1 : Int32)) else (some (0 : Int32)))

abbrev rm_f9_isAtWord : Room := { frames := 6, cells := 0, slots := 0, locals := 128 }
theorem hd_f9_isAtWord : yX9_isAtWord.cls = RX9 ∧ yX9_isAtWord.cls ≠ "java/lang/invoke/MethodHandle" ∧ yX9_isAtWord.cls ≠ "java/lang/invoke/VarHandle" ∧ (parseMethodDescriptor yX9_isAtWord.desc).map (fun d => d.parameters.length) = some 1 := by decide +kernel
set_option maxHeartbeats 4000000 in
set_option maxRecDepth 100000 in
theorem c9_isAtWord {l : Launch} {D : va_G} {adK : Nat → Nat} {adV : Nat → Nat} {ad_this : Nat → Nat} {cy_this : Nat → ClassId} {z_this_bytes : Nat → Int32} {z_this_length : Int32} {z_this_kind : Int32} {z_this_sign : Int32} {z_this_fault : Int32} {z_this_start : Int32} {z_this_stop : Int32} {s1 : Nat} {o_ret : Int32} (h : f9_isAtWord z_this_bytes z_this_kind z_this_start z_this_stop s1 = some o_ret) (hs1 : s1 < 7) : MetIE l yX9_isAtWord cX9_isAtWord 2 (some .boolean) rm_f9_isAtWord D ([(cy_this 1, .int)]) (cTp ad_this cy_this z_this_bytes z_this_length z_this_kind z_this_sign z_this_fault z_this_start z_this_stop) (cTp ad_this cy_this z_this_bytes z_this_length z_this_kind z_this_sign z_this_fault z_this_start z_this_stop) [.ref (ad_this 0), .ref (adK s1)] adK adV o_ret := by
  refine metIE_of (own := RX9) rfl (by decide) (Nat.le_of_ble_eq_true rfl) ?_
  intro p e s m args below meth c A Q ls S hK hA hP hD hS hl hE hret
  obtain ⟨hx, hb, hml, hown, hts⟩ := id S
  replace hl : lv_has ls 2 [(0, .ref (ad_this 0)), (1, .ref (adK s1))] := hl
  generalize hH : s.heap = H at hP ⊢
  replace hS : va_S A s.heap H [] := by rw [← hH]; exact hS
  generalize hlo : ([] : List Loc) = locs at hS ⊢
  unfold f9_isAtWord at h
  refine lv_aload_n hx hb dX9_isAtWord_0 rfl (lv_at hl 0 rfl) ?_
  refine lv_aload_n hx hb dX9_isAtWord_1 rfl (lv_at hl 1 rfl) ?_
  obtain ⟨r_1, hc2, h⟩ := bnd1_el h
  refine mfV_iE (As := [.ref (adK s1)]) (rest := []) (wc := cTp ad_this cy_this z_this_bytes z_this_length z_this_kind z_this_sign z_this_fault z_this_start z_this_stop) (wr := []) (wf := cTp ad_this cy_this z_this_bytes z_this_length z_this_kind z_this_sign z_this_fault z_this_start z_this_stop) S hK hP hD hS hA hE (c9_wordIn hc2 hs1) [0] [0, 1] [] [0, 1] rfl rfl rfl (by decide) (by decide) (by decide) rfl (by decide) (gdV mw_23_10 mw_10_13 mw_10_14 mw_1_17 mw_10_15) rfl rfl hd_f9_wordIn ⟨Nat.le_of_ble_eq_true rfl, Nat.le_of_ble_eq_true rfl⟩ (ci := 9) (q0 := 0) rfl rfl rfl hl.1 rfl (Nat.le_of_ble_eq_true rfl) dX9_isAtWord_2 (fun H locs hP hD hS => ?_)
  refine lv_if_ne (tgt := 12) hx hb dX9_isAtWord_5 rfl (fun c3 => ?_) (fun c3 => ?_)
  · replace h := ite_f c3 h
    refine lv_iconst (v := (0 : Int32)) hx hb dX9_isAtWord_12 (by decide) ?_
    obtain e_0 := inj1 h
    subst e_0
    exact hret _ _ _ _ _ hP hD hS rfl nz0 dX9_isAtWord_13
  · replace h := ite_t c3 h
    refine lv_iconst (v := (1 : Int32)) hx hb dX9_isAtWord_8 (by decide) ?_
    refine lv_goto (tgt := 13) hx hb dX9_isAtWord_9 rfl ?_
    obtain e_0 := inj1 h
    subst e_0
    exact hret _ _ _ _ _ hP hD hS rfl nz1 dX9_isAtWord_13

/-! LadderLand$LadderReader.number(II)I  -/
def f2_number_J40 (z_this_tape_start : Int32) (z_this_tape_fault_5 : Int32) : Option (Int32 × Int32) :=
bnd2 (f9_refuse z_this_tape_fault_5 z_this_tape_start (1 : Int32)) (fun r_10 z_this_tape_fault_11 =>
some ((-1 : Int32), z_this_tape_fault_11))

def f2_number (z_this_tape_bytes : Nat → Int32) (z_this_tape_kind : Int32) (z_this_tape_fault : Int32) (z_this_tape_start : Int32) (z_this_tape_stop : Int32) (a1 : Int32) (a2 : Int32) : Option (Int32 × Int32) :=
if z_this_tape_kind = (2 : Int32) then (bnd1 (f9_numberAtHand z_this_tape_bytes z_this_tape_start z_this_tape_stop) (fun r_2 =>
if r_2 < a1 then (f2_number_J40 z_this_tape_start z_this_tape_fault) else (if r_2 ≤ a2 then (some (r_2, z_this_tape_fault)) else (f2_number_J40 z_this_tape_start z_this_tape_fault)))) else (bnd2 (f9_refuse z_this_tape_fault z_this_tape_start (0 : Int32)) (fun r_7 z_this_tape_fault_8 =>
some ((-1 : Int32), z_this_tape_fault_8)))

abbrev rm_f2_number : Room := { frames := 1, cells := 0, slots := 0, locals := 22 }
theorem hd_f2_number : yX2_number.cls = RX2 ∧ yX2_number.cls ≠ "java/lang/invoke/MethodHandle" ∧ yX2_number.cls ≠ "java/lang/invoke/VarHandle" ∧ (parseMethodDescriptor yX2_number.desc).map (fun d => d.parameters.length) = some 2 := by decide +kernel
set_option maxHeartbeats 4000000 in
set_option maxRecDepth 100000 in
theorem c2_number {l : Launch} {D : va_G} {ad_this : Nat → Nat} {cy_this : Nat → ClassId} {ad_this_tape : Nat → Nat} {cy_this_tape : Nat → ClassId} {z_this_tape_bytes : Nat → Int32} {z_this_tape_length : Int32} {z_this_tape_kind : Int32} {z_this_tape_sign : Int32} {z_this_tape_fault : Int32} {z_this_tape_start : Int32} {z_this_tape_stop : Int32} {a1 : Int32} {a2 : Int32} {o_ret : Int32} {o_this_tape_fault : Int32} (h : f2_number z_this_tape_bytes z_this_tape_kind z_this_tape_fault z_this_tape_start z_this_tape_stop a1 a2 = some (o_ret, o_this_tape_fault)) : MetI l yX2_number cX2_number 4 (some .int) rm_f2_number D ([(cy_this_tape 1, .int)]) (cLR ad_this cy_this (ad_this_tape 0) ++ cTp ad_this_tape cy_this_tape z_this_tape_bytes z_this_tape_length z_this_tape_kind z_this_tape_sign z_this_tape_fault z_this_tape_start z_this_tape_stop) (cLR ad_this cy_this (ad_this_tape 0) ++ cTp ad_this_tape cy_this_tape z_this_tape_bytes z_this_tape_length z_this_tape_kind z_this_tape_sign o_this_tape_fault z_this_tape_start z_this_tape_stop) [.ref (ad_this 0), .int a1, .int a2] o_ret := by
  refine metI_of (own := RX2) rfl (by decide) (Nat.le_of_ble_eq_true rfl) ?_
  intro p e s m args below meth c A Q ls S hK hA hP hD hS hl hret
  obtain ⟨hx, hb, hml, hown, hts⟩ := id S
  replace hl : lv_has ls 4 [(0, .ref (ad_this 0)), (1, .int a1), (2, .int a2)] := hl
  generalize hH : s.heap = H at hP ⊢
  replace hS : va_S A s.heap H [] := by rw [← hH]; exact hS
  generalize hlo : ([] : List Loc) = locs at hS ⊢
  unfold f2_number at h
  have J40 : ∀ (z_this_tape_fault_5 : Int32) (H : Heap) (locs : List Loc) (ls : Array Slot), f2_number_J40 z_this_tape_start z_this_tape_fault_5 = some (o_ret, o_this_tape_fault) → va_P D vwCl (cLR ad_this cy_this (ad_this_tape 0) ++ cTp ad_this_tape cy_this_tape z_this_tape_bytes z_this_tape_length z_this_tape_kind z_this_tape_sign z_this_tape_fault_5 z_this_tape_start z_this_tape_stop) H → va_D A (cLR ad_this cy_this (ad_this_tape 0) ++ cTp ad_this_tape cy_this_tape z_this_tape_bytes z_this_tape_length z_this_tape_kind z_this_tape_sign z_this_tape_fault_5 z_this_tape_start z_this_tape_stop) → va_S A s.heap H locs → lv_has ls 4 [(0, .ref (ad_this 0))] → W p l e rm_f2_number s m args below meth c H locs 0 0 Q (F0 m 40 ls []) := by
    intro z_this_tape_fault_5 H locs ls h hP hD hS hl
    unfold f2_number_J40 at h
    refine lv_aload_n hx hb dX2_number_40 rfl (lv_at hl 0 rfl) ?_
    refine va_get (ci := 2) (v := .ref (ad_this_tape 0)) (C := RX2) (T := TX2) (N := 1) hx hb hts inlX2 hown hK hP 0 rfl rfl 0 (by decide) (hts _ mw_4_6) (fun _ h9 => h9) rfl dX2_number_41 ?_
    refine lv_iconst (v := (1 : Int32)) hx hb dX2_number_44 (by decide) ?_
    obtain ⟨r_10, z_this_tape_fault_11, hc12, h⟩ := bnd2_el h
    refine mfV_i (As := [.int (1 : Int32)]) (rest := []) (wc := cTp ad_this_tape cy_this_tape z_this_tape_bytes z_this_tape_length z_this_tape_kind z_this_tape_sign z_this_tape_fault_5 z_this_tape_start z_this_tape_stop) (wr := cLR ad_this cy_this (ad_this_tape 0)) (wf := cLR ad_this cy_this (ad_this_tape 0) ++ cTp ad_this_tape cy_this_tape z_this_tape_bytes z_this_tape_length z_this_tape_kind z_this_tape_sign z_this_tape_fault_11 z_this_tape_start z_this_tape_stop) S hK hP hD hS hA (c9_refuse hc12) [0] [1, 2] [0] [0, 1, 2] rfl rfl rfl (by decide) (by decide) (by decide) rfl (by decide) (gdV mw_12_17 mw_12_18 mw_12_19 mw_1_17 mw_12_20) rfl rfl hd_f9_refuse ⟨Nat.le_of_ble_eq_true rfl, Nat.le_of_ble_eq_true rfl⟩ (ci := 9) (q0 := 0) rfl rfl rfl hl.1 rfl (Nat.le_of_ble_eq_true rfl) dX2_number_45 (fun H locs hP hD hS => ?_)
    refine lv_pop hx hb dX2_number_48 rfl ?_
    refine lv_iconst (v := (-1 : Int32)) hx hb dX2_number_49 (by decide) ?_
    obtain ⟨e_0, e_1⟩ := inj2 h
    subst e_0
    subst e_1
    exact hret _ _ _ _ _ hP hD hS rfl rfl dX2_number_50
  refine lv_aload_n hx hb dX2_number_0 rfl (lv_at hl 0 rfl) ?_
  refine va_get (ci := 2) (v := .ref (ad_this_tape 0)) (C := RX2) (T := TX2) (N := 1) hx hb hts inlX2 hown hK hP 0 rfl rfl 0 (by decide) (hts _ mw_4_6) (fun _ h9 => h9) rfl dX2_number_1 ?_
  refine va_get (ci := 9) (v := .int z_this_tape_kind) (C := RX9) (T := TX9) (N := 7) hx hb hts inlX9 hown hK hP 1 rfl rfl 2 (by decide) (hts _ mw_9_17) (fun _ h9 => h9) rfl dX2_number_4 ?_
  refine lv_iconst (v := (2 : Int32)) hx hb dX2_number_7 (by decide) ?_
  refine lv_icmp_eq (tgt := 22) hx hb dX2_number_8 rfl (fun c1 => ?_) (fun c1 => ?_)
  · replace h := ite_t c1 h
    refine lv_aload_n hx hb dX2_number_22 rfl (lv_at hl 0 rfl) ?_
    refine va_get (ci := 2) (v := .ref (ad_this_tape 0)) (C := RX2) (T := TX2) (N := 1) hx hb hts inlX2 hown hK hP 0 rfl rfl 0 (by decide) (hts _ mw_4_6) (fun _ h9 => h9) rfl dX2_number_23 ?_
    obtain ⟨r_2, hc3, h⟩ := bnd1_el h
    refine mfV_i (As := []) (rest := []) (wc := cTp ad_this_tape cy_this_tape z_this_tape_bytes z_this_tape_length z_this_tape_kind z_this_tape_sign z_this_tape_fault z_this_tape_start z_this_tape_stop) (wr := cLR ad_this cy_this (ad_this_tape 0)) (wf := cLR ad_this cy_this (ad_this_tape 0) ++ cTp ad_this_tape cy_this_tape z_this_tape_bytes z_this_tape_length z_this_tape_kind z_this_tape_sign z_this_tape_fault z_this_tape_start z_this_tape_stop) S hK hP hD hS hA (c9_numberAtHand hc3) [0] [1, 2] [0] [0, 1, 2] rfl rfl rfl (by decide) (by decide) (by decide) rfl (by decide) (gdV mw_13_7 mw_13_8 mw_13_9 mw_1_17 mw_13_10) rfl rfl hd_f9_numberAtHand ⟨Nat.le_of_ble_eq_true rfl, Nat.le_of_ble_eq_true rfl⟩ (ci := 9) (q0 := 0) rfl rfl rfl hl.1 rfl (Nat.le_of_ble_eq_true rfl) dX2_number_26 (fun H locs hP hD hS => ?_)
    refine lv_istore_n (lv' := [(3, .int r_2), (0, .ref (ad_this 0)), (1, .int a1), (2, .int a2)]) hx hb dX2_number_29 rfl hl (by decide) rfl (fun ls hl => ?_)
    refine lv_iload_n hx hb dX2_number_30 rfl (lv_at hl 0 rfl) ?_
    refine lv_iload_n hx hb dX2_number_31 rfl (lv_at hl 2 rfl) ?_
    refine lv_icmp_lt (tgt := 40) hx hb dX2_number_32 rfl (fun c4 => ?_) (fun c4 => ?_)
    · replace h := ite_t c4 h
      exact J40 z_this_tape_fault H locs ls h hP hD hS (lv_sub hl [1] rfl)
    · replace h := ite_f c4 h
      refine lv_iload_n hx hb dX2_number_35 rfl (lv_at hl 0 rfl) ?_
      refine lv_iload_n hx hb dX2_number_36 rfl (lv_at hl 3 rfl) ?_
      refine lv_icmp_le (tgt := 51) hx hb dX2_number_37 rfl (fun c6 => ?_) (fun c6 => ?_)
      · replace h := ite_t c6 h
        refine lv_iload_n hx hb dX2_number_51 rfl (lv_at hl 0 rfl) ?_
        obtain ⟨e_0, e_1⟩ := inj2 h
        subst e_0
        subst e_1
        exact hret _ _ _ _ _ hP hD hS rfl rfl dX2_number_52
      · replace h := ite_f c6 h
        exact J40 z_this_tape_fault H locs ls h hP hD hS (lv_sub hl [1] rfl)
  · replace h := ite_f c1 h
    refine lv_aload_n hx hb dX2_number_11 rfl (lv_at hl 0 rfl) ?_
    refine va_get (ci := 2) (v := .ref (ad_this_tape 0)) (C := RX2) (T := TX2) (N := 1) hx hb hts inlX2 hown hK hP 0 rfl rfl 0 (by decide) (hts _ mw_4_6) (fun _ h9 => h9) rfl dX2_number_12 ?_
    refine lv_iconst (v := (0 : Int32)) hx hb dX2_number_15 (by decide) ?_
    obtain ⟨r_7, z_this_tape_fault_8, hc9, h⟩ := bnd2_el h
    refine mfV_i (As := [.int (0 : Int32)]) (rest := []) (wc := cTp ad_this_tape cy_this_tape z_this_tape_bytes z_this_tape_length z_this_tape_kind z_this_tape_sign z_this_tape_fault z_this_tape_start z_this_tape_stop) (wr := cLR ad_this cy_this (ad_this_tape 0)) (wf := cLR ad_this cy_this (ad_this_tape 0) ++ cTp ad_this_tape cy_this_tape z_this_tape_bytes z_this_tape_length z_this_tape_kind z_this_tape_sign z_this_tape_fault_8 z_this_tape_start z_this_tape_stop) S hK hP hD hS hA (c9_refuse hc9) [0] [1, 2] [0] [0, 1, 2] rfl rfl rfl (by decide) (by decide) (by decide) rfl (by decide) (gdV mw_12_17 mw_12_18 mw_12_19 mw_1_17 mw_12_20) rfl rfl hd_f9_refuse ⟨Nat.le_of_ble_eq_true rfl, Nat.le_of_ble_eq_true rfl⟩ (ci := 9) (q0 := 0) rfl rfl rfl hl.1 rfl (Nat.le_of_ble_eq_true rfl) dX2_number_16 (fun H locs hP hD hS => ?_)
    refine lv_pop hx hb dX2_number_19 rfl ?_
    refine lv_iconst (v := (-1 : Int32)) hx hb dX2_number_20 (by decide) ?_
    obtain ⟨e_0, e_1⟩ := inj2 h
    subst e_0
    subst e_1
    exact hret _ _ _ _ _ hP hD hS rfl rfl dX2_number_21
/-! LadderLand$LadderReader.readRungs(LLadderLand$Ladder;)Z  -/
def f2_readRungs (z_this_tape_bytes : Nat → Int32) (z_this_tape_length : Int32) (z_this_tape_kind : Int32) (z_this_tape_sign : Int32) (z_this_tape_fault : Int32) (z_this_tape_start : Int32) (z_this_tape_stop : Int32) (z_a1_rungs : Int32) : Option (Int32 × Int32 × Int32 × Int32 × Int32 × Int32 × Int32) :=
bnd2 (f2_number z_this_tape_bytes z_this_tape_kind z_this_tape_fault z_this_tape_start z_this_tape_stop (3 : Int32) (9 : Int32)) (fun r_1 z_this_tape_fault_2 =>
if r_1 = (-1 : Int32) then (some ((0 : Int32), z_this_tape_kind, z_this_tape_sign, z_this_tape_fault_2, z_this_tape_start, z_this_tape_stop, z_a1_rungs)) else (bnd4 (f9_advance z_this_tape_bytes z_this_tape_length z_this_tape_kind z_this_tape_sign z_this_tape_start z_this_tape_stop) (fun z_this_tape_kind_5 z_this_tape_sign_6 z_this_tape_start_7 z_this_tape_stop_8 =>
some ((1 : Int32), z_this_tape_kind_5, z_this_tape_sign_6, z_this_tape_fault_2, z_this_tape_start_7, z_this_tape_stop_8, r_1))))

abbrev rm_f2_readRungs : Room := { frames := 2, cells := 0, slots := 0, locals := 45 }
theorem hd_f2_readRungs : yX2_readRungs.cls = RX2 ∧ yX2_readRungs.cls ≠ "java/lang/invoke/MethodHandle" ∧ yX2_readRungs.cls ≠ "java/lang/invoke/VarHandle" ∧ (parseMethodDescriptor yX2_readRungs.desc).map (fun d => d.parameters.length) = some 1 := by decide +kernel
set_option maxHeartbeats 4000000 in
set_option maxRecDepth 100000 in
theorem c2_readRungs {l : Launch} {D : va_G} {ad_this : Nat → Nat} {cy_this : Nat → ClassId} {ad_this_tape : Nat → Nat} {cy_this_tape : Nat → ClassId} {z_this_tape_bytes : Nat → Int32} {z_this_tape_length : Int32} {z_this_tape_kind : Int32} {z_this_tape_sign : Int32} {z_this_tape_fault : Int32} {z_this_tape_start : Int32} {z_this_tape_stop : Int32} {ad_a1 : Nat → Nat} {cy_a1 : Nat → ClassId} {z_a1_rungs : Int32} {z_a1_people : Int32} {z_a1_startBroken : Int32} {z_a1_room : Nat → Int32} {z_a1_strength : Nat → Int32} {z_a1_weight : Nat → Int32} {z_a1_told : Nat → Int32} {z_a1_startRung : Nat → Int32} {z_a1_startWant : Nat → Int32} {o_ret : Int32} {o_this_tape_kind : Int32} {o_this_tape_sign : Int32} {o_this_tape_fault : Int32} {o_this_tape_start : Int32} {o_this_tape_stop : Int32} {o_a1_rungs : Int32} (h : f2_readRungs z_this_tape_bytes z_this_tape_length z_this_tape_kind z_this_tape_sign z_this_tape_fault z_this_tape_start z_this_tape_stop z_a1_rungs = some (o_ret, o_this_tape_kind, o_this_tape_sign, o_this_tape_fault, o_this_tape_start, o_this_tape_stop, o_a1_rungs)) : MetI l yX2_readRungs cX2_readRungs 3 (some .boolean) rm_f2_readRungs D ([(cy_this_tape 1, .int), (cy_a1 1, .int), (cy_a1 2, .int), (cy_a1 3, .int), (cy_a1 4, .int), (cy_a1 5, .int), (cy_a1 6, .int)]) (cLR ad_this cy_this (ad_this_tape 0) ++ cTp ad_this_tape cy_this_tape z_this_tape_bytes z_this_tape_length z_this_tape_kind z_this_tape_sign z_this_tape_fault z_this_tape_start z_this_tape_stop ++ cLd ad_a1 cy_a1 z_a1_rungs z_a1_people z_a1_startBroken z_a1_room z_a1_strength z_a1_weight z_a1_told z_a1_startRung z_a1_startWant) (cLR ad_this cy_this (ad_this_tape 0) ++ cTp ad_this_tape cy_this_tape z_this_tape_bytes z_this_tape_length o_this_tape_kind o_this_tape_sign o_this_tape_fault o_this_tape_start o_this_tape_stop ++ cLd ad_a1 cy_a1 o_a1_rungs z_a1_people z_a1_startBroken z_a1_room z_a1_strength z_a1_weight z_a1_told z_a1_startRung z_a1_startWant) [.ref (ad_this 0), .ref (ad_a1 0)] o_ret := by
  refine metI_of (own := RX2) rfl (by decide) (Nat.le_of_ble_eq_true rfl) ?_
  intro p e s m args below meth c A Q ls S hK hA hP hD hS hl hret
  obtain ⟨hx, hb, hml, hown, hts⟩ := id S
  replace hl : lv_has ls 3 [(0, .ref (ad_this 0)), (1, .ref (ad_a1 0))] := hl
  generalize hH : s.heap = H at hP ⊢
  replace hS : va_S A s.heap H [] := by rw [← hH]; exact hS
  generalize hlo : ([] : List Loc) = locs at hS ⊢
  unfold f2_readRungs at h
  refine lv_aload_n hx hb dX2_readRungs_0 rfl (lv_at hl 0 rfl) ?_
  refine lv_iconst (v := (3 : Int32)) hx hb dX2_readRungs_1 (by decide) ?_
  refine lv_bipush (v := (9 : Int32)) hx hb dX2_readRungs_2 (by decide) ?_
  obtain ⟨r_1, z_this_tape_fault_2, hc3, h⟩ := bnd2_el h
  refine mfV_i (As := [.int (3 : Int32), .int (9 : Int32)]) (rest := []) (wc := cLR ad_this cy_this (ad_this_tape 0) ++ cTp ad_this_tape cy_this_tape z_this_tape_bytes z_this_tape_length z_this_tape_kind z_this_tape_sign z_this_tape_fault z_this_tape_start z_this_tape_stop) (wr := cLd ad_a1 cy_a1 z_a1_rungs z_a1_people z_a1_startBroken z_a1_room z_a1_strength z_a1_weight z_a1_told z_a1_startRung z_a1_startWant) (wf := cLR ad_this cy_this (ad_this_tape 0) ++ cTp ad_this_tape cy_this_tape z_this_tape_bytes z_this_tape_length z_this_tape_kind z_this_tape_sign z_this_tape_fault_2 z_this_tape_start z_this_tape_stop ++ cLd ad_a1 cy_a1 z_a1_rungs z_a1_people z_a1_startBroken z_a1_room z_a1_strength z_a1_weight z_a1_told z_a1_startRung z_a1_startWant) S hK hP hD hS hA (c2_number hc3) [0] [0, 1, 2] [3, 4, 5, 6, 7, 8, 9] [7, 8, 9, 0, 1, 2, 3, 4, 5, 6] rfl rfl rfl (by decide) (by decide) (by decide) rfl (by decide) (gdV mw_13_3 mw_13_4 mw_13_5 mw_1_21 mw_13_6) rfl rfl hd_f2_number ⟨Nat.le_of_ble_eq_true rfl, Nat.le_of_ble_eq_true rfl⟩ (ci := 2) (q0 := 0) rfl rfl rfl hl.1 rfl (Nat.le_of_ble_eq_true rfl) dX2_readRungs_4 (fun H locs hP hD hS => ?_)
  refine lv_istore_n (lv' := [(2, .int r_1), (0, .ref (ad_this 0)), (1, .ref (ad_a1 0))]) hx hb dX2_readRungs_7 rfl hl (by decide) rfl (fun ls hl => ?_)
  refine lv_iload_n hx hb dX2_readRungs_8 rfl (lv_at hl 0 rfl) ?_
  refine lv_iconst (v := (-1 : Int32)) hx hb dX2_readRungs_9 (by decide) ?_
  refine lv_icmp_ne (tgt := 15) hx hb dX2_readRungs_10 rfl (fun c4 => ?_) (fun c4 => ?_)
  · replace h := ite_f c4 h
    refine lv_aload_n hx hb dX2_readRungs_15 rfl (lv_at hl 2 rfl) ?_
    refine lv_iload_n hx hb dX2_readRungs_16 rfl (lv_at hl 0 rfl) ?_
    refine va_put (ci := 1) (v := .int r_1) (ty := .int) (C := RX1) (T := TX1) (N := 9) hx hb hts inlX1 tyX1 tyX1_ok nmX1 hown hK hP hD hS 3 rfl rfl 0 (by decide) (hts _ mw_13_2) (fun _ h9 => h9) rfl (by decide +kernel) rfl rfl (Nat.le_of_ble_eq_true rfl) dX2_readRungs_17 (fun H locs hP hD hS => ?_)
    replace hP : va_P D vwCl (cLR ad_this cy_this (ad_this_tape 0) ++ cTp ad_this_tape cy_this_tape z_this_tape_bytes z_this_tape_length z_this_tape_kind z_this_tape_sign z_this_tape_fault_2 z_this_tape_start z_this_tape_stop ++ cLd ad_a1 cy_a1 r_1 z_a1_people z_a1_startBroken z_a1_room z_a1_strength z_a1_weight z_a1_told z_a1_startRung z_a1_startWant) H := hP
    replace hD : va_D A (cLR ad_this cy_this (ad_this_tape 0) ++ cTp ad_this_tape cy_this_tape z_this_tape_bytes z_this_tape_length z_this_tape_kind z_this_tape_sign z_this_tape_fault_2 z_this_tape_start z_this_tape_stop ++ cLd ad_a1 cy_a1 r_1 z_a1_people z_a1_startBroken z_a1_room z_a1_strength z_a1_weight z_a1_told z_a1_startRung z_a1_startWant) := hD
    refine lv_aload_n hx hb dX2_readRungs_20 rfl (lv_at hl 1 rfl) ?_
    refine va_get (ci := 2) (v := .ref (ad_this_tape 0)) (C := RX2) (T := TX2) (N := 1) hx hb hts inlX2 hown hK hP 0 rfl rfl 0 (by decide) (hts _ mw_4_6) (fun _ h9 => h9) rfl dX2_readRungs_21 ?_
    obtain ⟨z_this_tape_kind_5, z_this_tape_sign_6, z_this_tape_start_7, z_this_tape_stop_8, hc9, h⟩ := bnd4_el h
    refine mfV_v (As := []) (rest := []) (wc := cTp ad_this_tape cy_this_tape z_this_tape_bytes z_this_tape_length z_this_tape_kind z_this_tape_sign z_this_tape_fault_2 z_this_tape_start z_this_tape_stop) (wr := cLR ad_this cy_this (ad_this_tape 0) ++ cLd ad_a1 cy_a1 r_1 z_a1_people z_a1_startBroken z_a1_room z_a1_strength z_a1_weight z_a1_told z_a1_startRung z_a1_startWant) (wf := cLR ad_this cy_this (ad_this_tape 0) ++ cTp ad_this_tape cy_this_tape z_this_tape_bytes z_this_tape_length z_this_tape_kind_5 z_this_tape_sign_6 z_this_tape_fault_2 z_this_tape_start_7 z_this_tape_stop_8 ++ cLd ad_a1 cy_a1 r_1 z_a1_people z_a1_startBroken z_a1_room z_a1_strength z_a1_weight z_a1_told z_a1_startRung z_a1_startWant) S hK hP hD hS hA (c9_advance hc9) [0] [1, 2] [0, 3, 4, 5, 6, 7, 8, 9] [0, 8, 9, 1, 2, 3, 4, 5, 6, 7] rfl rfl rfl (by decide) (by decide) (by decide) rfl (by decide) (gdV mw_12_21 mw_10_1 mw_10_2 mw_1_17 mw_10_3) rfl rfl hd_f9_advance ⟨Nat.le_of_ble_eq_true rfl, Nat.le_of_ble_eq_true rfl⟩ (ci := 9) (q0 := 0) rfl rfl rfl hl.1 rfl (Nat.le_of_ble_eq_true rfl) dX2_readRungs_24 (fun H locs hP hD hS => ?_)
    refine lv_iconst (v := (1 : Int32)) hx hb dX2_readRungs_27 (by decide) ?_
    obtain ⟨e_0, e_1, e_2, e_3, e_4, e_5, e_6⟩ := inj7 h
    subst e_0
    subst e_1
    subst e_2
    subst e_3
    subst e_4
    subst e_5
    subst e_6
    exact hret _ _ _ _ _ hP hD hS rfl nz1 dX2_readRungs_28
  · replace h := ite_t c4 h
    refine lv_iconst (v := (0 : Int32)) hx hb dX2_readRungs_13 (by decide) ?_
    obtain ⟨e_0, e_1, e_2, e_3, e_4, e_5, e_6⟩ := inj7 h
    subst e_0
    subst e_1
    subst e_2
    subst e_3
    subst e_4
    subst e_5
    subst e_6
    exact hret _ _ _ _ _ hP hD hS rfl nz0 dX2_readRungs_14
/-! LadderLand$LadderReader.readRung(LLadderLand$Ladder;)Z  -/
def f2_readRung (z_this_tape_bytes : Nat → Int32) (z_this_tape_length : Int32) (z_this_tape_kind : Int32) (z_this_tape_sign : Int32) (z_this_tape_fault : Int32) (z_this_tape_start : Int32) (z_this_tape_stop : Int32) (z_a1_rungs : Int32) (z_a1_people : Int32) (z_a1_room : Nat → Int32) (z_a1_strength : Nat → Int32) (z_a1_startRung : Nat → Int32) : Option (Int32 × Int32 × Int32 × Int32 × Int32 × Int32 × (Nat → Int32) × (Nat → Int32)) :=
bnd2 (f2_number z_this_tape_bytes z_this_tape_kind z_this_tape_fault z_this_tape_start z_this_tape_stop (0 : Int32) (z_a1_rungs - (1 : Int32))) (fun r_1 z_this_tape_fault_2 =>
if r_1 = (-1 : Int32) then (some ((0 : Int32), z_this_tape_kind, z_this_tape_sign, z_this_tape_fault_2, z_this_tape_start, z_this_tape_stop, z_a1_room, z_a1_strength)) else (bnd4 (f9_advance z_this_tape_bytes z_this_tape_length z_this_tape_kind z_this_tape_sign z_this_tape_start z_this_tape_stop) (fun z_this_tape_kind_5 z_this_tape_sign_6 z_this_tape_start_7 z_this_tape_stop_8 =>
bnd1 (f1_crowdAtStart z_a1_people z_a1_startRung r_1) (fun r_10 =>
lt ((if (1 : Int32) < r_10 then r_10 else (1 : Int32))) (fun x_12 =>
bnd2 (f2_number z_this_tape_bytes z_this_tape_kind_5 z_this_tape_fault_2 z_this_tape_start_7 z_this_tape_stop_8 x_12 (4 : Int32)) (fun r_13 z_this_tape_fault_14 =>
if r_13 = (-1 : Int32) then (some ((0 : Int32), z_this_tape_kind_5, z_this_tape_sign_6, z_this_tape_fault_14, z_this_tape_start_7, z_this_tape_stop_8, z_a1_room, z_a1_strength)) else (bnd4 (f9_advance z_this_tape_bytes z_this_tape_length z_this_tape_kind_5 z_this_tape_sign_6 z_this_tape_start_7 z_this_tape_stop_8) (fun z_this_tape_kind_17 z_this_tape_sign_18 z_this_tape_start_19 z_this_tape_stop_20 =>
bnd2 (f2_number z_this_tape_bytes z_this_tape_kind_17 z_this_tape_fault_14 z_this_tape_start_19 z_this_tape_stop_20 (1 : Int32) (999 : Int32)) (fun r_22 z_this_tape_fault_23 =>
if r_22 = (-1 : Int32) then (some ((0 : Int32), z_this_tape_kind_17, z_this_tape_sign_18, z_this_tape_fault_23, z_this_tape_start_19, z_this_tape_stop_20, z_a1_room, z_a1_strength)) else (bnd4 (f9_advance z_this_tape_bytes z_this_tape_length z_this_tape_kind_17 z_this_tape_sign_18 z_this_tape_start_19 z_this_tape_stop_20) (fun z_this_tape_kind_26 z_this_tape_sign_27 z_this_tape_start_28 z_this_tape_stop_29 =>
if r_1 < 0 ∨ 9 ≤ Int32.toNatClampNeg r_1 then none else (
lt (upd z_a1_room (Int32.toNatClampNeg r_1) r_13) (fun z_a1_room_32 =>
if r_1 < 0 ∨ 9 ≤ Int32.toNatClampNeg r_1 then none else (
lt (upd z_a1_strength (Int32.toNatClampNeg r_1) r_22) (fun z_a1_strength_34 =>
some ((1 : Int32), z_this_tape_kind_26, z_this_tape_sign_27, z_this_tape_fault_23, z_this_tape_start_28, z_this_tape_stop_29, z_a1_room_32, z_a1_strength_34))))))))))))))))

abbrev rm_f2_readRung : Room := { frames := 2, cells := 0, slots := 0, locals := 45 }
theorem hd_f2_readRung : yX2_readRung.cls = RX2 ∧ yX2_readRung.cls ≠ "java/lang/invoke/MethodHandle" ∧ yX2_readRung.cls ≠ "java/lang/invoke/VarHandle" ∧ (parseMethodDescriptor yX2_readRung.desc).map (fun d => d.parameters.length) = some 1 := by decide +kernel
set_option maxHeartbeats 4000000 in
set_option maxRecDepth 100000 in
theorem c2_readRung {l : Launch} {D : va_G} {ad_this : Nat → Nat} {cy_this : Nat → ClassId} {ad_this_tape : Nat → Nat} {cy_this_tape : Nat → ClassId} {z_this_tape_bytes : Nat → Int32} {z_this_tape_length : Int32} {z_this_tape_kind : Int32} {z_this_tape_sign : Int32} {z_this_tape_fault : Int32} {z_this_tape_start : Int32} {z_this_tape_stop : Int32} {ad_a1 : Nat → Nat} {cy_a1 : Nat → ClassId} {z_a1_rungs : Int32} {z_a1_people : Int32} {z_a1_startBroken : Int32} {z_a1_room : Nat → Int32} {z_a1_strength : Nat → Int32} {z_a1_weight : Nat → Int32} {z_a1_told : Nat → Int32} {z_a1_startRung : Nat → Int32} {z_a1_startWant : Nat → Int32} {o_ret : Int32} {o_this_tape_kind : Int32} {o_this_tape_sign : Int32} {o_this_tape_fault : Int32} {o_this_tape_start : Int32} {o_this_tape_stop : Int32} {o_a1_room : Nat → Int32} {o_a1_strength : Nat → Int32} (h : f2_readRung z_this_tape_bytes z_this_tape_length z_this_tape_kind z_this_tape_sign z_this_tape_fault z_this_tape_start z_this_tape_stop z_a1_rungs z_a1_people z_a1_room z_a1_strength z_a1_startRung = some (o_ret, o_this_tape_kind, o_this_tape_sign, o_this_tape_fault, o_this_tape_start, o_this_tape_stop, o_a1_room, o_a1_strength)) : MetI l yX2_readRung cX2_readRung 5 (some .boolean) rm_f2_readRung D ([(cy_this_tape 1, .int), (cy_a1 1, .int), (cy_a1 2, .int), (cy_a1 3, .int), (cy_a1 4, .int), (cy_a1 5, .int), (cy_a1 6, .int)]) (cLR ad_this cy_this (ad_this_tape 0) ++ cTp ad_this_tape cy_this_tape z_this_tape_bytes z_this_tape_length z_this_tape_kind z_this_tape_sign z_this_tape_fault z_this_tape_start z_this_tape_stop ++ cLd ad_a1 cy_a1 z_a1_rungs z_a1_people z_a1_startBroken z_a1_room z_a1_strength z_a1_weight z_a1_told z_a1_startRung z_a1_startWant) (cLR ad_this cy_this (ad_this_tape 0) ++ cTp ad_this_tape cy_this_tape z_this_tape_bytes z_this_tape_length o_this_tape_kind o_this_tape_sign o_this_tape_fault o_this_tape_start o_this_tape_stop ++ cLd ad_a1 cy_a1 z_a1_rungs z_a1_people z_a1_startBroken o_a1_room o_a1_strength z_a1_weight z_a1_told z_a1_startRung z_a1_startWant) [.ref (ad_this 0), .ref (ad_a1 0)] o_ret := by
  refine metI_of (own := RX2) rfl (by decide) (Nat.le_of_ble_eq_true rfl) ?_
  intro p e s m args below meth c A Q ls S hK hA hP hD hS hl hret
  obtain ⟨hx, hb, hml, hown, hts⟩ := id S
  replace hl : lv_has ls 5 [(0, .ref (ad_this 0)), (1, .ref (ad_a1 0))] := hl
  generalize hH : s.heap = H at hP ⊢
  replace hS : va_S A s.heap H [] := by rw [← hH]; exact hS
  generalize hlo : ([] : List Loc) = locs at hS ⊢
  unfold f2_readRung at h
  refine lv_aload_n hx hb dX2_readRung_0 rfl (lv_at hl 0 rfl) ?_
  refine lv_iconst (v := (0 : Int32)) hx hb dX2_readRung_1 (by decide) ?_
  refine lv_aload_n hx hb dX2_readRung_2 rfl (lv_at hl 1 rfl) ?_
  refine va_get (ci := 1) (v := .int z_a1_rungs) (C := RX1) (T := TX1) (N := 9) hx hb hts inlX1 hown hK hP 3 rfl rfl 0 (by decide) (hts _ mw_13_2) (fun _ h9 => h9) rfl dX2_readRung_3 ?_
  refine lv_iconst (v := (1 : Int32)) hx hb dX2_readRung_6 (by decide) ?_
  refine lv_isub hx hb dX2_readRung_7 ?_
  obtain ⟨r_1, z_this_tape_fault_2, hc3, h⟩ := bnd2_el h
  refine mfV_i (As := [.int (0 : Int32), .int (z_a1_rungs - (1 : Int32))]) (rest := []) (wc := cLR ad_this cy_this (ad_this_tape 0) ++ cTp ad_this_tape cy_this_tape z_this_tape_bytes z_this_tape_length z_this_tape_kind z_this_tape_sign z_this_tape_fault z_this_tape_start z_this_tape_stop) (wr := cLd ad_a1 cy_a1 z_a1_rungs z_a1_people z_a1_startBroken z_a1_room z_a1_strength z_a1_weight z_a1_told z_a1_startRung z_a1_startWant) (wf := cLR ad_this cy_this (ad_this_tape 0) ++ cTp ad_this_tape cy_this_tape z_this_tape_bytes z_this_tape_length z_this_tape_kind z_this_tape_sign z_this_tape_fault_2 z_this_tape_start z_this_tape_stop ++ cLd ad_a1 cy_a1 z_a1_rungs z_a1_people z_a1_startBroken z_a1_room z_a1_strength z_a1_weight z_a1_told z_a1_startRung z_a1_startWant) S hK hP hD hS hA (c2_number hc3) [0] [0, 1, 2] [3, 4, 5, 6, 7, 8, 9] [7, 8, 9, 0, 1, 2, 3, 4, 5, 6] rfl rfl rfl (by decide) (by decide) (by decide) rfl (by decide) (gdV mw_13_3 mw_13_4 mw_13_5 mw_1_21 mw_13_6) rfl rfl hd_f2_number ⟨Nat.le_of_ble_eq_true rfl, Nat.le_of_ble_eq_true rfl⟩ (ci := 2) (q0 := 0) rfl rfl rfl hl.1 rfl (Nat.le_of_ble_eq_true rfl) dX2_readRung_8 (fun H locs hP hD hS => ?_)
  refine lv_istore_n (lv' := [(2, .int r_1), (0, .ref (ad_this 0)), (1, .ref (ad_a1 0))]) hx hb dX2_readRung_11 rfl hl (by decide) rfl (fun ls hl => ?_)
  refine lv_iload_n hx hb dX2_readRung_12 rfl (lv_at hl 0 rfl) ?_
  refine lv_iconst (v := (-1 : Int32)) hx hb dX2_readRung_13 (by decide) ?_
  refine lv_icmp_ne (tgt := 19) hx hb dX2_readRung_14 rfl (fun c4 => ?_) (fun c4 => ?_)
  · replace h := ite_f c4 h
    refine lv_aload_n hx hb dX2_readRung_19 rfl (lv_at hl 1 rfl) ?_
    refine va_get (ci := 2) (v := .ref (ad_this_tape 0)) (C := RX2) (T := TX2) (N := 1) hx hb hts inlX2 hown hK hP 0 rfl rfl 0 (by decide) (hts _ mw_4_6) (fun _ h9 => h9) rfl dX2_readRung_20 ?_
    obtain ⟨z_this_tape_kind_5, z_this_tape_sign_6, z_this_tape_start_7, z_this_tape_stop_8, hc9, h⟩ := bnd4_el h
    refine mfV_v (As := []) (rest := []) (wc := cTp ad_this_tape cy_this_tape z_this_tape_bytes z_this_tape_length z_this_tape_kind z_this_tape_sign z_this_tape_fault_2 z_this_tape_start z_this_tape_stop) (wr := cLR ad_this cy_this (ad_this_tape 0) ++ cLd ad_a1 cy_a1 z_a1_rungs z_a1_people z_a1_startBroken z_a1_room z_a1_strength z_a1_weight z_a1_told z_a1_startRung z_a1_startWant) (wf := cLR ad_this cy_this (ad_this_tape 0) ++ cTp ad_this_tape cy_this_tape z_this_tape_bytes z_this_tape_length z_this_tape_kind_5 z_this_tape_sign_6 z_this_tape_fault_2 z_this_tape_start_7 z_this_tape_stop_8 ++ cLd ad_a1 cy_a1 z_a1_rungs z_a1_people z_a1_startBroken z_a1_room z_a1_strength z_a1_weight z_a1_told z_a1_startRung z_a1_startWant) S hK hP hD hS hA (c9_advance hc9) [0] [1, 2] [0, 3, 4, 5, 6, 7, 8, 9] [0, 8, 9, 1, 2, 3, 4, 5, 6, 7] rfl rfl rfl (by decide) (by decide) (by decide) rfl (by decide) (gdV mw_12_21 mw_10_1 mw_10_2 mw_1_17 mw_10_3) rfl rfl hd_f9_advance ⟨Nat.le_of_ble_eq_true rfl, Nat.le_of_ble_eq_true rfl⟩ (ci := 9) (q0 := 0) rfl rfl rfl hl.1 rfl (Nat.le_of_ble_eq_true rfl) dX2_readRung_23 (fun H locs hP hD hS => ?_)
    refine lv_aload_n hx hb dX2_readRung_26 rfl (lv_at hl 1 rfl) ?_
    refine lv_iconst (v := (1 : Int32)) hx hb dX2_readRung_27 (by decide) ?_
    refine lv_aload_n hx hb dX2_readRung_28 rfl (lv_at hl 2 rfl) ?_
    refine lv_iload_n hx hb dX2_readRung_29 rfl (lv_at hl 0 rfl) ?_
    obtain ⟨r_10, hc11, h⟩ := bnd1_el h
    refine mfV_i (As := [.int r_1]) (rest := [.int (1 : Int32), .ref (ad_this 0)]) (wc := cLd ad_a1 cy_a1 z_a1_rungs z_a1_people z_a1_startBroken z_a1_room z_a1_strength z_a1_weight z_a1_told z_a1_startRung z_a1_startWant) (wr := cLR ad_this cy_this (ad_this_tape 0) ++ cTp ad_this_tape cy_this_tape z_this_tape_bytes z_this_tape_length z_this_tape_kind_5 z_this_tape_sign_6 z_this_tape_fault_2 z_this_tape_start_7 z_this_tape_stop_8) (wf := cLR ad_this cy_this (ad_this_tape 0) ++ cTp ad_this_tape cy_this_tape z_this_tape_bytes z_this_tape_length z_this_tape_kind_5 z_this_tape_sign_6 z_this_tape_fault_2 z_this_tape_start_7 z_this_tape_stop_8 ++ cLd ad_a1 cy_a1 z_a1_rungs z_a1_people z_a1_startBroken z_a1_room z_a1_strength z_a1_weight z_a1_told z_a1_startRung z_a1_startWant) S hK hP hD hS hA (c1_crowdAtStart hc11) [1, 2, 3, 4, 5, 6] [3, 4, 5, 6, 7, 8, 9] [0, 1, 2] [0, 1, 2, 3, 4, 5, 6, 7, 8, 9] rfl rfl rfl (by decide) (by decide) (by decide) rfl (by decide) (gdV mw_13_21 mw_13_22 mw_13_23 mw_1_14 mw_14_0) rfl rfl hd_f1_crowdAtStart ⟨Nat.le_of_ble_eq_true rfl, Nat.le_of_ble_eq_true rfl⟩ (ci := 1) (q0 := 0) rfl rfl rfl hl.1 rfl (Nat.le_of_ble_eq_true rfl) dX2_readRung_30 (fun H locs hP hD hS => ?_)
    refine va_mmax (rest := [.ref (ad_this 0)]) hx hb (hml.trans hl.1.symm) hown (hts _ mw_13_15) (hts _ mw_13_16) (hts _ mw_13_17) (hts _ mw_13_18) (Nat.le_of_ble_eq_true rfl) (Nat.le_of_ble_eq_true rfl) (Nat.zero_le _) (Nat.zero_le _) dX2_readRung_33 ?_
    refine lv_topi (fun x_12 ex_12 => ?_)
    replace h := lt_ex ex_12 h
    refine lv_iconst (v := (4 : Int32)) hx hb dX2_readRung_36 (by decide) ?_
    obtain ⟨r_13, z_this_tape_fault_14, hc15, h⟩ := bnd2_el h
    refine mfV_i (As := [.int x_12, .int (4 : Int32)]) (rest := []) (wc := cLR ad_this cy_this (ad_this_tape 0) ++ cTp ad_this_tape cy_this_tape z_this_tape_bytes z_this_tape_length z_this_tape_kind_5 z_this_tape_sign_6 z_this_tape_fault_2 z_this_tape_start_7 z_this_tape_stop_8) (wr := cLd ad_a1 cy_a1 z_a1_rungs z_a1_people z_a1_startBroken z_a1_room z_a1_strength z_a1_weight z_a1_told z_a1_startRung z_a1_startWant) (wf := cLR ad_this cy_this (ad_this_tape 0) ++ cTp ad_this_tape cy_this_tape z_this_tape_bytes z_this_tape_length z_this_tape_kind_5 z_this_tape_sign_6 z_this_tape_fault_14 z_this_tape_start_7 z_this_tape_stop_8 ++ cLd ad_a1 cy_a1 z_a1_rungs z_a1_people z_a1_startBroken z_a1_room z_a1_strength z_a1_weight z_a1_told z_a1_startRung z_a1_startWant) S hK hP hD hS hA (c2_number hc15) [0] [0, 1, 2] [3, 4, 5, 6, 7, 8, 9] [7, 8, 9, 0, 1, 2, 3, 4, 5, 6] rfl rfl rfl (by decide) (by decide) (by decide) rfl (by decide) (gdV mw_13_3 mw_13_4 mw_13_5 mw_1_21 mw_13_6) rfl rfl hd_f2_number ⟨Nat.le_of_ble_eq_true rfl, Nat.le_of_ble_eq_true rfl⟩ (ci := 2) (q0 := 0) rfl rfl rfl hl.1 rfl (Nat.le_of_ble_eq_true rfl) dX2_readRung_37 (fun H locs hP hD hS => ?_)
    refine lv_istore_n (lv' := [(3, .int r_13), (2, .int r_1), (0, .ref (ad_this 0)), (1, .ref (ad_a1 0))]) hx hb dX2_readRung_40 rfl hl (by decide) rfl (fun ls hl => ?_)
    refine lv_iload_n hx hb dX2_readRung_41 rfl (lv_at hl 0 rfl) ?_
    refine lv_iconst (v := (-1 : Int32)) hx hb dX2_readRung_42 (by decide) ?_
    refine lv_icmp_ne (tgt := 48) hx hb dX2_readRung_43 rfl (fun c16 => ?_) (fun c16 => ?_)
    · replace h := ite_f c16 h
      refine lv_aload_n hx hb dX2_readRung_48 rfl (lv_at hl 2 rfl) ?_
      refine va_get (ci := 2) (v := .ref (ad_this_tape 0)) (C := RX2) (T := TX2) (N := 1) hx hb hts inlX2 hown hK hP 0 rfl rfl 0 (by decide) (hts _ mw_4_6) (fun _ h9 => h9) rfl dX2_readRung_49 ?_
      obtain ⟨z_this_tape_kind_17, z_this_tape_sign_18, z_this_tape_start_19, z_this_tape_stop_20, hc21, h⟩ := bnd4_el h
      refine mfV_v (As := []) (rest := []) (wc := cTp ad_this_tape cy_this_tape z_this_tape_bytes z_this_tape_length z_this_tape_kind_5 z_this_tape_sign_6 z_this_tape_fault_14 z_this_tape_start_7 z_this_tape_stop_8) (wr := cLR ad_this cy_this (ad_this_tape 0) ++ cLd ad_a1 cy_a1 z_a1_rungs z_a1_people z_a1_startBroken z_a1_room z_a1_strength z_a1_weight z_a1_told z_a1_startRung z_a1_startWant) (wf := cLR ad_this cy_this (ad_this_tape 0) ++ cTp ad_this_tape cy_this_tape z_this_tape_bytes z_this_tape_length z_this_tape_kind_17 z_this_tape_sign_18 z_this_tape_fault_14 z_this_tape_start_19 z_this_tape_stop_20 ++ cLd ad_a1 cy_a1 z_a1_rungs z_a1_people z_a1_startBroken z_a1_room z_a1_strength z_a1_weight z_a1_told z_a1_startRung z_a1_startWant) S hK hP hD hS hA (c9_advance hc21) [0] [1, 2] [0, 3, 4, 5, 6, 7, 8, 9] [0, 8, 9, 1, 2, 3, 4, 5, 6, 7] rfl rfl rfl (by decide) (by decide) (by decide) rfl (by decide) (gdV mw_12_21 mw_10_1 mw_10_2 mw_1_17 mw_10_3) rfl rfl hd_f9_advance ⟨Nat.le_of_ble_eq_true rfl, Nat.le_of_ble_eq_true rfl⟩ (ci := 9) (q0 := 0) rfl rfl rfl hl.1 rfl (Nat.le_of_ble_eq_true rfl) dX2_readRung_52 (fun H locs hP hD hS => ?_)
      refine lv_aload_n hx hb dX2_readRung_55 rfl (lv_at hl 2 rfl) ?_
      refine lv_iconst (v := (1 : Int32)) hx hb dX2_readRung_56 (by decide) ?_
      refine lv_sipush (v := (999 : Int32)) hx hb dX2_readRung_57 (by decide) ?_
      obtain ⟨r_22, z_this_tape_fault_23, hc24, h⟩ := bnd2_el h
      refine mfV_i (As := [.int (1 : Int32), .int (999 : Int32)]) (rest := []) (wc := cLR ad_this cy_this (ad_this_tape 0) ++ cTp ad_this_tape cy_this_tape z_this_tape_bytes z_this_tape_length z_this_tape_kind_17 z_this_tape_sign_18 z_this_tape_fault_14 z_this_tape_start_19 z_this_tape_stop_20) (wr := cLd ad_a1 cy_a1 z_a1_rungs z_a1_people z_a1_startBroken z_a1_room z_a1_strength z_a1_weight z_a1_told z_a1_startRung z_a1_startWant) (wf := cLR ad_this cy_this (ad_this_tape 0) ++ cTp ad_this_tape cy_this_tape z_this_tape_bytes z_this_tape_length z_this_tape_kind_17 z_this_tape_sign_18 z_this_tape_fault_23 z_this_tape_start_19 z_this_tape_stop_20 ++ cLd ad_a1 cy_a1 z_a1_rungs z_a1_people z_a1_startBroken z_a1_room z_a1_strength z_a1_weight z_a1_told z_a1_startRung z_a1_startWant) S hK hP hD hS hA (c2_number hc24) [0] [0, 1, 2] [3, 4, 5, 6, 7, 8, 9] [7, 8, 9, 0, 1, 2, 3, 4, 5, 6] rfl rfl rfl (by decide) (by decide) (by decide) rfl (by decide) (gdV mw_13_3 mw_13_4 mw_13_5 mw_1_21 mw_13_6) rfl rfl hd_f2_number ⟨Nat.le_of_ble_eq_true rfl, Nat.le_of_ble_eq_true rfl⟩ (ci := 2) (q0 := 0) rfl rfl rfl hl.1 rfl (Nat.le_of_ble_eq_true rfl) dX2_readRung_60 (fun H locs hP hD hS => ?_)
      refine lv_istore (lv' := [(4, .int r_22), (3, .int r_13), (2, .int r_1), (0, .ref (ad_this 0)), (1, .ref (ad_a1 0))]) hx hb dX2_readRung_63 hl (by decide) rfl (fun ls hl => ?_)
      refine lv_iload hx hb dX2_readRung_65 (lv_at hl 0 rfl) ?_
      refine lv_iconst (v := (-1 : Int32)) hx hb dX2_readRung_67 (by decide) ?_
      refine lv_icmp_ne (tgt := 73) hx hb dX2_readRung_68 rfl (fun c25 => ?_) (fun c25 => ?_)
      · replace h := ite_f c25 h
        refine lv_aload_n hx hb dX2_readRung_73 rfl (lv_at hl 3 rfl) ?_
        refine va_get (ci := 2) (v := .ref (ad_this_tape 0)) (C := RX2) (T := TX2) (N := 1) hx hb hts inlX2 hown hK hP 0 rfl rfl 0 (by decide) (hts _ mw_4_6) (fun _ h9 => h9) rfl dX2_readRung_74 ?_
        obtain ⟨z_this_tape_kind_26, z_this_tape_sign_27, z_this_tape_start_28, z_this_tape_stop_29, hc30, h⟩ := bnd4_el h
        refine mfV_v (As := []) (rest := []) (wc := cTp ad_this_tape cy_this_tape z_this_tape_bytes z_this_tape_length z_this_tape_kind_17 z_this_tape_sign_18 z_this_tape_fault_23 z_this_tape_start_19 z_this_tape_stop_20) (wr := cLR ad_this cy_this (ad_this_tape 0) ++ cLd ad_a1 cy_a1 z_a1_rungs z_a1_people z_a1_startBroken z_a1_room z_a1_strength z_a1_weight z_a1_told z_a1_startRung z_a1_startWant) (wf := cLR ad_this cy_this (ad_this_tape 0) ++ cTp ad_this_tape cy_this_tape z_this_tape_bytes z_this_tape_length z_this_tape_kind_26 z_this_tape_sign_27 z_this_tape_fault_23 z_this_tape_start_28 z_this_tape_stop_29 ++ cLd ad_a1 cy_a1 z_a1_rungs z_a1_people z_a1_startBroken z_a1_room z_a1_strength z_a1_weight z_a1_told z_a1_startRung z_a1_startWant) S hK hP hD hS hA (c9_advance hc30) [0] [1, 2] [0, 3, 4, 5, 6, 7, 8, 9] [0, 8, 9, 1, 2, 3, 4, 5, 6, 7] rfl rfl rfl (by decide) (by decide) (by decide) rfl (by decide) (gdV mw_12_21 mw_10_1 mw_10_2 mw_1_17 mw_10_3) rfl rfl hd_f9_advance ⟨Nat.le_of_ble_eq_true rfl, Nat.le_of_ble_eq_true rfl⟩ (ci := 9) (q0 := 0) rfl rfl rfl hl.1 rfl (Nat.le_of_ble_eq_true rfl) dX2_readRung_77 (fun H locs hP hD hS => ?_)
        refine lv_aload_n hx hb dX2_readRung_80 rfl (lv_at hl 4 rfl) ?_
        refine va_get (ci := 1) (v := .ref (ad_a1 1)) (C := RX1) (T := TX1) (N := 9) hx hb hts inlX1 hown hK hP 3 rfl rfl 3 (by decide) (hts _ mw_13_19) (fun _ h9 => h9) rfl dX2_readRung_81 ?_
        refine lv_iload_n hx hb dX2_readRung_84 rfl (lv_at hl 2 rfl) ?_
        refine lv_iload_n hx hb dX2_readRung_85 rfl (lv_at hl 1 rfl) ?_
        obtain ⟨b31, h⟩ := bd_el h
        refine as_i (f := z_a1_room) hx hb hK hP hD hS 4 1 rfl rfl b31 dX2_readRung_86 (fun z_a1_room_32 H locs ez_a1_room_32 hP hD hS => ?_)
        replace h := lt_ex ez_a1_room_32 h
        replace hP : va_P D vwCl (cLR ad_this cy_this (ad_this_tape 0) ++ cTp ad_this_tape cy_this_tape z_this_tape_bytes z_this_tape_length z_this_tape_kind_26 z_this_tape_sign_27 z_this_tape_fault_23 z_this_tape_start_28 z_this_tape_stop_29 ++ cLd ad_a1 cy_a1 z_a1_rungs z_a1_people z_a1_startBroken z_a1_room_32 z_a1_strength z_a1_weight z_a1_told z_a1_startRung z_a1_startWant) H := hP
        replace hD : va_D A (cLR ad_this cy_this (ad_this_tape 0) ++ cTp ad_this_tape cy_this_tape z_this_tape_bytes z_this_tape_length z_this_tape_kind_26 z_this_tape_sign_27 z_this_tape_fault_23 z_this_tape_start_28 z_this_tape_stop_29 ++ cLd ad_a1 cy_a1 z_a1_rungs z_a1_people z_a1_startBroken z_a1_room_32 z_a1_strength z_a1_weight z_a1_told z_a1_startRung z_a1_startWant) := hD
        refine lv_aload_n hx hb dX2_readRung_87 rfl (lv_at hl 4 rfl) ?_
        refine va_get (ci := 1) (v := .ref (ad_a1 2)) (C := RX1) (T := TX1) (N := 9) hx hb hts inlX1 hown hK hP 3 rfl rfl 4 (by decide) (hts _ mw_13_20) (fun _ h9 => h9) rfl dX2_readRung_88 ?_
        refine lv_iload_n hx hb dX2_readRung_91 rfl (lv_at hl 2 rfl) ?_
        refine lv_iload hx hb dX2_readRung_92 (lv_at hl 0 rfl) ?_
        obtain ⟨b33, h⟩ := bd_el h
        refine as_i (f := z_a1_strength) hx hb hK hP hD hS 5 2 rfl rfl b33 dX2_readRung_94 (fun z_a1_strength_34 H locs ez_a1_strength_34 hP hD hS => ?_)
        replace h := lt_ex ez_a1_strength_34 h
        replace hP : va_P D vwCl (cLR ad_this cy_this (ad_this_tape 0) ++ cTp ad_this_tape cy_this_tape z_this_tape_bytes z_this_tape_length z_this_tape_kind_26 z_this_tape_sign_27 z_this_tape_fault_23 z_this_tape_start_28 z_this_tape_stop_29 ++ cLd ad_a1 cy_a1 z_a1_rungs z_a1_people z_a1_startBroken z_a1_room_32 z_a1_strength_34 z_a1_weight z_a1_told z_a1_startRung z_a1_startWant) H := hP
        replace hD : va_D A (cLR ad_this cy_this (ad_this_tape 0) ++ cTp ad_this_tape cy_this_tape z_this_tape_bytes z_this_tape_length z_this_tape_kind_26 z_this_tape_sign_27 z_this_tape_fault_23 z_this_tape_start_28 z_this_tape_stop_29 ++ cLd ad_a1 cy_a1 z_a1_rungs z_a1_people z_a1_startBroken z_a1_room_32 z_a1_strength_34 z_a1_weight z_a1_told z_a1_startRung z_a1_startWant) := hD
        refine lv_iconst (v := (1 : Int32)) hx hb dX2_readRung_95 (by decide) ?_
        obtain ⟨e_0, e_1, e_2, e_3, e_4, e_5, e_6, e_7⟩ := inj8 h
        subst e_0
        subst e_1
        subst e_2
        subst e_3
        subst e_4
        subst e_5
        subst e_6
        subst e_7
        exact hret _ _ _ _ _ hP hD hS rfl nz1 dX2_readRung_96
      · replace h := ite_t c25 h
        refine lv_iconst (v := (0 : Int32)) hx hb dX2_readRung_71 (by decide) ?_
        obtain ⟨e_0, e_1, e_2, e_3, e_4, e_5, e_6, e_7⟩ := inj8 h
        subst e_0
        subst e_1
        subst e_2
        subst e_3
        subst e_4
        subst e_5
        subst e_6
        subst e_7
        exact hret _ _ _ _ _ hP hD hS rfl nz0 dX2_readRung_72
    · replace h := ite_t c16 h
      refine lv_iconst (v := (0 : Int32)) hx hb dX2_readRung_46 (by decide) ?_
      obtain ⟨e_0, e_1, e_2, e_3, e_4, e_5, e_6, e_7⟩ := inj8 h
      subst e_0
      subst e_1
      subst e_2
      subst e_3
      subst e_4
      subst e_5
      subst e_6
      subst e_7
      exact hret _ _ _ _ _ hP hD hS rfl nz0 dX2_readRung_47
  · replace h := ite_t c4 h
    refine lv_iconst (v := (0 : Int32)) hx hb dX2_readRung_17 (by decide) ?_
    obtain ⟨e_0, e_1, e_2, e_3, e_4, e_5, e_6, e_7⟩ := inj8 h
    subst e_0
    subst e_1
    subst e_2
    subst e_3
    subst e_4
    subst e_5
    subst e_6
    subst e_7
    exact hret _ _ _ _ _ hP hD hS rfl nz0 dX2_readRung_18
/-! LadderLand$LadderReader.readBroken(LLadderLand$Ladder;)Z  -/
def f2_readBroken (z_this_tape_bytes : Nat → Int32) (z_this_tape_length : Int32) (z_this_tape_kind : Int32) (z_this_tape_sign : Int32) (z_this_tape_fault : Int32) (z_this_tape_start : Int32) (z_this_tape_stop : Int32) (z_a1_rungs : Int32) (z_a1_people : Int32) (z_a1_startBroken : Int32) (z_a1_startRung : Nat → Int32) : Option (Int32 × Int32 × Int32 × Int32 × Int32 × Int32 × Int32) :=
bnd2 (f2_number z_this_tape_bytes z_this_tape_kind z_this_tape_fault z_this_tape_start z_this_tape_stop (0 : Int32) (z_a1_rungs - (1 : Int32))) (fun r_1 z_this_tape_fault_2 =>
if r_1 = (-1 : Int32) then (some ((0 : Int32), z_this_tape_kind, z_this_tape_sign, z_this_tape_fault_2, z_this_tape_start, z_this_tape_stop, z_a1_startBroken)) else (bnd1 (f1_crowdAtStart z_a1_people z_a1_startRung r_1) (fun r_5 =>
if r_5 ≤ 0 then (bnd4 (f9_advance z_this_tape_bytes z_this_tape_length z_this_tape_kind z_this_tape_sign z_this_tape_start z_this_tape_stop) (fun z_this_tape_kind_8 z_this_tape_sign_9 z_this_tape_start_10 z_this_tape_stop_11 =>
lt ((z_a1_startBroken ||| ((1 : Int32) <<< (r_1 &&& 31)))) (fun x_13 =>
some ((1 : Int32), z_this_tape_kind_8, z_this_tape_sign_9, z_this_tape_fault_2, z_this_tape_start_10, z_this_tape_stop_11, x_13)))) else (bnd2 (f9_refuse z_this_tape_fault_2 z_this_tape_start (1 : Int32)) (fun r_14 z_this_tape_fault_15 =>
if r_14 = 0 ∨ r_14 = 1 then some (r_14, z_this_tape_kind, z_this_tape_sign, z_this_tape_fault_15, z_this_tape_start, z_this_tape_stop, z_a1_startBroken) else none)))))

abbrev rm_f2_readBroken : Room := { frames := 2, cells := 0, slots := 0, locals := 45 }
theorem hd_f2_readBroken : yX2_readBroken.cls = RX2 ∧ yX2_readBroken.cls ≠ "java/lang/invoke/MethodHandle" ∧ yX2_readBroken.cls ≠ "java/lang/invoke/VarHandle" ∧ (parseMethodDescriptor yX2_readBroken.desc).map (fun d => d.parameters.length) = some 1 := by decide +kernel
set_option maxHeartbeats 4000000 in
set_option maxRecDepth 100000 in
theorem c2_readBroken {l : Launch} {D : va_G} {ad_this : Nat → Nat} {cy_this : Nat → ClassId} {ad_this_tape : Nat → Nat} {cy_this_tape : Nat → ClassId} {z_this_tape_bytes : Nat → Int32} {z_this_tape_length : Int32} {z_this_tape_kind : Int32} {z_this_tape_sign : Int32} {z_this_tape_fault : Int32} {z_this_tape_start : Int32} {z_this_tape_stop : Int32} {ad_a1 : Nat → Nat} {cy_a1 : Nat → ClassId} {z_a1_rungs : Int32} {z_a1_people : Int32} {z_a1_startBroken : Int32} {z_a1_room : Nat → Int32} {z_a1_strength : Nat → Int32} {z_a1_weight : Nat → Int32} {z_a1_told : Nat → Int32} {z_a1_startRung : Nat → Int32} {z_a1_startWant : Nat → Int32} {o_ret : Int32} {o_this_tape_kind : Int32} {o_this_tape_sign : Int32} {o_this_tape_fault : Int32} {o_this_tape_start : Int32} {o_this_tape_stop : Int32} {o_a1_startBroken : Int32} (h : f2_readBroken z_this_tape_bytes z_this_tape_length z_this_tape_kind z_this_tape_sign z_this_tape_fault z_this_tape_start z_this_tape_stop z_a1_rungs z_a1_people z_a1_startBroken z_a1_startRung = some (o_ret, o_this_tape_kind, o_this_tape_sign, o_this_tape_fault, o_this_tape_start, o_this_tape_stop, o_a1_startBroken)) : MetI l yX2_readBroken cX2_readBroken 3 (some .boolean) rm_f2_readBroken D ([(cy_this_tape 1, .int), (cy_a1 1, .int), (cy_a1 2, .int), (cy_a1 3, .int), (cy_a1 4, .int), (cy_a1 5, .int), (cy_a1 6, .int)]) (cLR ad_this cy_this (ad_this_tape 0) ++ cTp ad_this_tape cy_this_tape z_this_tape_bytes z_this_tape_length z_this_tape_kind z_this_tape_sign z_this_tape_fault z_this_tape_start z_this_tape_stop ++ cLd ad_a1 cy_a1 z_a1_rungs z_a1_people z_a1_startBroken z_a1_room z_a1_strength z_a1_weight z_a1_told z_a1_startRung z_a1_startWant) (cLR ad_this cy_this (ad_this_tape 0) ++ cTp ad_this_tape cy_this_tape z_this_tape_bytes z_this_tape_length o_this_tape_kind o_this_tape_sign o_this_tape_fault o_this_tape_start o_this_tape_stop ++ cLd ad_a1 cy_a1 z_a1_rungs z_a1_people o_a1_startBroken z_a1_room z_a1_strength z_a1_weight z_a1_told z_a1_startRung z_a1_startWant) [.ref (ad_this 0), .ref (ad_a1 0)] o_ret := by
  refine metI_of (own := RX2) rfl (by decide) (Nat.le_of_ble_eq_true rfl) ?_
  intro p e s m args below meth c A Q ls S hK hA hP hD hS hl hret
  obtain ⟨hx, hb, hml, hown, hts⟩ := id S
  replace hl : lv_has ls 3 [(0, .ref (ad_this 0)), (1, .ref (ad_a1 0))] := hl
  generalize hH : s.heap = H at hP ⊢
  replace hS : va_S A s.heap H [] := by rw [← hH]; exact hS
  generalize hlo : ([] : List Loc) = locs at hS ⊢
  unfold f2_readBroken at h
  refine lv_aload_n hx hb dX2_readBroken_0 rfl (lv_at hl 0 rfl) ?_
  refine lv_iconst (v := (0 : Int32)) hx hb dX2_readBroken_1 (by decide) ?_
  refine lv_aload_n hx hb dX2_readBroken_2 rfl (lv_at hl 1 rfl) ?_
  refine va_get (ci := 1) (v := .int z_a1_rungs) (C := RX1) (T := TX1) (N := 9) hx hb hts inlX1 hown hK hP 3 rfl rfl 0 (by decide) (hts _ mw_13_2) (fun _ h9 => h9) rfl dX2_readBroken_3 ?_
  refine lv_iconst (v := (1 : Int32)) hx hb dX2_readBroken_6 (by decide) ?_
  refine lv_isub hx hb dX2_readBroken_7 ?_
  obtain ⟨r_1, z_this_tape_fault_2, hc3, h⟩ := bnd2_el h
  refine mfV_i (As := [.int (0 : Int32), .int (z_a1_rungs - (1 : Int32))]) (rest := []) (wc := cLR ad_this cy_this (ad_this_tape 0) ++ cTp ad_this_tape cy_this_tape z_this_tape_bytes z_this_tape_length z_this_tape_kind z_this_tape_sign z_this_tape_fault z_this_tape_start z_this_tape_stop) (wr := cLd ad_a1 cy_a1 z_a1_rungs z_a1_people z_a1_startBroken z_a1_room z_a1_strength z_a1_weight z_a1_told z_a1_startRung z_a1_startWant) (wf := cLR ad_this cy_this (ad_this_tape 0) ++ cTp ad_this_tape cy_this_tape z_this_tape_bytes z_this_tape_length z_this_tape_kind z_this_tape_sign z_this_tape_fault_2 z_this_tape_start z_this_tape_stop ++ cLd ad_a1 cy_a1 z_a1_rungs z_a1_people z_a1_startBroken z_a1_room z_a1_strength z_a1_weight z_a1_told z_a1_startRung z_a1_startWant) S hK hP hD hS hA (c2_number hc3) [0] [0, 1, 2] [3, 4, 5, 6, 7, 8, 9] [7, 8, 9, 0, 1, 2, 3, 4, 5, 6] rfl rfl rfl (by decide) (by decide) (by decide) rfl (by decide) (gdV mw_13_3 mw_13_4 mw_13_5 mw_1_21 mw_13_6) rfl rfl hd_f2_number ⟨Nat.le_of_ble_eq_true rfl, Nat.le_of_ble_eq_true rfl⟩ (ci := 2) (q0 := 0) rfl rfl rfl hl.1 rfl (Nat.le_of_ble_eq_true rfl) dX2_readBroken_8 (fun H locs hP hD hS => ?_)
  refine lv_istore_n (lv' := [(2, .int r_1), (0, .ref (ad_this 0)), (1, .ref (ad_a1 0))]) hx hb dX2_readBroken_11 rfl hl (by decide) rfl (fun ls hl => ?_)
  refine lv_iload_n hx hb dX2_readBroken_12 rfl (lv_at hl 0 rfl) ?_
  refine lv_iconst (v := (-1 : Int32)) hx hb dX2_readBroken_13 (by decide) ?_
  refine lv_icmp_ne (tgt := 19) hx hb dX2_readBroken_14 rfl (fun c4 => ?_) (fun c4 => ?_)
  · replace h := ite_f c4 h
    refine lv_aload_n hx hb dX2_readBroken_19 rfl (lv_at hl 2 rfl) ?_
    refine lv_iload_n hx hb dX2_readBroken_20 rfl (lv_at hl 0 rfl) ?_
    obtain ⟨r_5, hc6, h⟩ := bnd1_el h
    refine mfV_i (As := [.int r_1]) (rest := []) (wc := cLd ad_a1 cy_a1 z_a1_rungs z_a1_people z_a1_startBroken z_a1_room z_a1_strength z_a1_weight z_a1_told z_a1_startRung z_a1_startWant) (wr := cLR ad_this cy_this (ad_this_tape 0) ++ cTp ad_this_tape cy_this_tape z_this_tape_bytes z_this_tape_length z_this_tape_kind z_this_tape_sign z_this_tape_fault_2 z_this_tape_start z_this_tape_stop) (wf := cLR ad_this cy_this (ad_this_tape 0) ++ cTp ad_this_tape cy_this_tape z_this_tape_bytes z_this_tape_length z_this_tape_kind z_this_tape_sign z_this_tape_fault_2 z_this_tape_start z_this_tape_stop ++ cLd ad_a1 cy_a1 z_a1_rungs z_a1_people z_a1_startBroken z_a1_room z_a1_strength z_a1_weight z_a1_told z_a1_startRung z_a1_startWant) S hK hP hD hS hA (c1_crowdAtStart hc6) [1, 2, 3, 4, 5, 6] [3, 4, 5, 6, 7, 8, 9] [0, 1, 2] [0, 1, 2, 3, 4, 5, 6, 7, 8, 9] rfl rfl rfl (by decide) (by decide) (by decide) rfl (by decide) (gdV mw_13_21 mw_13_22 mw_13_23 mw_1_14 mw_14_0) rfl rfl hd_f1_crowdAtStart ⟨Nat.le_of_ble_eq_true rfl, Nat.le_of_ble_eq_true rfl⟩ (ci := 1) (q0 := 0) rfl rfl rfl hl.1 rfl (Nat.le_of_ble_eq_true rfl) dX2_readBroken_21 (fun H locs hP hD hS => ?_)
    refine lv_if_le (tgt := 36) hx hb dX2_readBroken_24 rfl (fun c7 => ?_) (fun c7 => ?_)
    · replace h := ite_t c7 h
      refine lv_aload_n hx hb dX2_readBroken_36 rfl (lv_at hl 1 rfl) ?_
      refine va_get (ci := 2) (v := .ref (ad_this_tape 0)) (C := RX2) (T := TX2) (N := 1) hx hb hts inlX2 hown hK hP 0 rfl rfl 0 (by decide) (hts _ mw_4_6) (fun _ h9 => h9) rfl dX2_readBroken_37 ?_
      obtain ⟨z_this_tape_kind_8, z_this_tape_sign_9, z_this_tape_start_10, z_this_tape_stop_11, hc12, h⟩ := bnd4_el h
      refine mfV_v (As := []) (rest := []) (wc := cTp ad_this_tape cy_this_tape z_this_tape_bytes z_this_tape_length z_this_tape_kind z_this_tape_sign z_this_tape_fault_2 z_this_tape_start z_this_tape_stop) (wr := cLR ad_this cy_this (ad_this_tape 0) ++ cLd ad_a1 cy_a1 z_a1_rungs z_a1_people z_a1_startBroken z_a1_room z_a1_strength z_a1_weight z_a1_told z_a1_startRung z_a1_startWant) (wf := cLR ad_this cy_this (ad_this_tape 0) ++ cTp ad_this_tape cy_this_tape z_this_tape_bytes z_this_tape_length z_this_tape_kind_8 z_this_tape_sign_9 z_this_tape_fault_2 z_this_tape_start_10 z_this_tape_stop_11 ++ cLd ad_a1 cy_a1 z_a1_rungs z_a1_people z_a1_startBroken z_a1_room z_a1_strength z_a1_weight z_a1_told z_a1_startRung z_a1_startWant) S hK hP hD hS hA (c9_advance hc12) [0] [1, 2] [0, 3, 4, 5, 6, 7, 8, 9] [0, 8, 9, 1, 2, 3, 4, 5, 6, 7] rfl rfl rfl (by decide) (by decide) (by decide) rfl (by decide) (gdV mw_12_21 mw_10_1 mw_10_2 mw_1_17 mw_10_3) rfl rfl hd_f9_advance ⟨Nat.le_of_ble_eq_true rfl, Nat.le_of_ble_eq_true rfl⟩ (ci := 9) (q0 := 0) rfl rfl rfl hl.1 rfl (Nat.le_of_ble_eq_true rfl) dX2_readBroken_40 (fun H locs hP hD hS => ?_)
      refine lv_aload_n hx hb dX2_readBroken_43 rfl (lv_at hl 2 rfl) ?_
      refine lv_dup hx hb dX2_readBroken_44 rfl ?_
      refine va_get (ci := 1) (v := .int z_a1_startBroken) (C := RX1) (T := TX1) (N := 9) hx hb hts inlX1 hown hK hP 3 rfl rfl 2 (by decide) (hts _ mw_14_6) (fun _ h9 => h9) rfl dX2_readBroken_45 ?_
      refine lv_iconst (v := (1 : Int32)) hx hb dX2_readBroken_48 (by decide) ?_
      refine lv_iload_n hx hb dX2_readBroken_49 rfl (lv_at hl 0 rfl) ?_
      refine lv_ishl hx hb dX2_readBroken_50 ?_
      refine lv_ior hx hb dX2_readBroken_51 ?_
      refine lv_topi (fun x_13 ex_13 => ?_)
      replace h := lt_ex ex_13 h
      refine va_put (ci := 1) (v := .int x_13) (ty := .int) (C := RX1) (T := TX1) (N := 9) hx hb hts inlX1 tyX1 tyX1_ok nmX1 hown hK hP hD hS 3 rfl rfl 2 (by decide) (hts _ mw_14_6) (fun _ h9 => h9) rfl (by decide +kernel) rfl rfl (Nat.le_of_ble_eq_true rfl) dX2_readBroken_52 (fun H locs hP hD hS => ?_)
      replace hP : va_P D vwCl (cLR ad_this cy_this (ad_this_tape 0) ++ cTp ad_this_tape cy_this_tape z_this_tape_bytes z_this_tape_length z_this_tape_kind_8 z_this_tape_sign_9 z_this_tape_fault_2 z_this_tape_start_10 z_this_tape_stop_11 ++ cLd ad_a1 cy_a1 z_a1_rungs z_a1_people x_13 z_a1_room z_a1_strength z_a1_weight z_a1_told z_a1_startRung z_a1_startWant) H := hP
      replace hD : va_D A (cLR ad_this cy_this (ad_this_tape 0) ++ cTp ad_this_tape cy_this_tape z_this_tape_bytes z_this_tape_length z_this_tape_kind_8 z_this_tape_sign_9 z_this_tape_fault_2 z_this_tape_start_10 z_this_tape_stop_11 ++ cLd ad_a1 cy_a1 z_a1_rungs z_a1_people x_13 z_a1_room z_a1_strength z_a1_weight z_a1_told z_a1_startRung z_a1_startWant) := hD
      refine lv_iconst (v := (1 : Int32)) hx hb dX2_readBroken_55 (by decide) ?_
      obtain ⟨e_0, e_1, e_2, e_3, e_4, e_5, e_6⟩ := inj7 h
      subst e_0
      subst e_1
      subst e_2
      subst e_3
      subst e_4
      subst e_5
      subst e_6
      exact hret _ _ _ _ _ hP hD hS rfl nz1 dX2_readBroken_56
    · replace h := ite_f c7 h
      refine lv_aload_n hx hb dX2_readBroken_27 rfl (lv_at hl 1 rfl) ?_
      refine va_get (ci := 2) (v := .ref (ad_this_tape 0)) (C := RX2) (T := TX2) (N := 1) hx hb hts inlX2 hown hK hP 0 rfl rfl 0 (by decide) (hts _ mw_4_6) (fun _ h9 => h9) rfl dX2_readBroken_28 ?_
      refine lv_iconst (v := (1 : Int32)) hx hb dX2_readBroken_31 (by decide) ?_
      obtain ⟨r_14, z_this_tape_fault_15, hc16, h⟩ := bnd2_el h
      refine mfV_i (As := [.int (1 : Int32)]) (rest := []) (wc := cTp ad_this_tape cy_this_tape z_this_tape_bytes z_this_tape_length z_this_tape_kind z_this_tape_sign z_this_tape_fault_2 z_this_tape_start z_this_tape_stop) (wr := cLR ad_this cy_this (ad_this_tape 0) ++ cLd ad_a1 cy_a1 z_a1_rungs z_a1_people z_a1_startBroken z_a1_room z_a1_strength z_a1_weight z_a1_told z_a1_startRung z_a1_startWant) (wf := cLR ad_this cy_this (ad_this_tape 0) ++ cTp ad_this_tape cy_this_tape z_this_tape_bytes z_this_tape_length z_this_tape_kind z_this_tape_sign z_this_tape_fault_15 z_this_tape_start z_this_tape_stop ++ cLd ad_a1 cy_a1 z_a1_rungs z_a1_people z_a1_startBroken z_a1_room z_a1_strength z_a1_weight z_a1_told z_a1_startRung z_a1_startWant) S hK hP hD hS hA (c9_refuse hc16) [0] [1, 2] [0, 3, 4, 5, 6, 7, 8, 9] [0, 8, 9, 1, 2, 3, 4, 5, 6, 7] rfl rfl rfl (by decide) (by decide) (by decide) rfl (by decide) (gdV mw_12_17 mw_12_18 mw_12_19 mw_1_17 mw_12_20) rfl rfl hd_f9_refuse ⟨Nat.le_of_ble_eq_true rfl, Nat.le_of_ble_eq_true rfl⟩ (ci := 9) (q0 := 0) rfl rfl rfl hl.1 rfl (Nat.le_of_ble_eq_true rfl) dX2_readBroken_32 (fun H locs hP hD hS => ?_)
      obtain ⟨hz, h⟩ := gd_el h
      obtain ⟨e_0, e_1, e_2, e_3, e_4, e_5, e_6⟩ := inj7 h
      subst e_0
      subst e_1
      subst e_2
      subst e_3
      subst e_4
      subst e_5
      subst e_6
      exact hret _ _ _ _ _ hP hD hS rfl (nzg hz) dX2_readBroken_35
  · replace h := ite_t c4 h
    refine lv_iconst (v := (0 : Int32)) hx hb dX2_readBroken_17 (by decide) ?_
    obtain ⟨e_0, e_1, e_2, e_3, e_4, e_5, e_6⟩ := inj7 h
    subst e_0
    subst e_1
    subst e_2
    subst e_3
    subst e_4
    subst e_5
    subst e_6
    exact hret _ _ _ _ _ hP hD hS rfl nz0 dX2_readBroken_18
/-! LadderLand$LadderReader.readPerson(LLadderLand$Ladder;)Z  -/
def f2_readPerson (z_this_tape_bytes : Nat → Int32) (z_this_tape_length : Int32) (z_this_tape_kind : Int32) (z_this_tape_sign : Int32) (z_this_tape_fault : Int32) (z_this_tape_start : Int32) (z_this_tape_stop : Int32) (z_a1_rungs : Int32) (z_a1_people : Int32) (z_a1_startBroken : Int32) (z_a1_room : Nat → Int32) (z_a1_weight : Nat → Int32) (z_a1_told : Nat → Int32) (z_a1_startRung : Nat → Int32) (z_a1_startWant : Nat → Int32) : Option (Int32 × Int32 × Int32 × Int32 × Int32 × Int32 × Int32 × (Nat → Int32) × (Nat → Int32) × (Nat → Int32) × (Nat → Int32)) :=
bnd2 (f2_number z_this_tape_bytes z_this_tape_kind z_this_tape_fault z_this_tape_start z_this_tape_stop (0 : Int32) (z_a1_rungs - (1 : Int32))) (fun r_1 z_this_tape_fault_2 =>
if r_1 = (-1 : Int32) then (some ((0 : Int32), z_this_tape_kind, z_this_tape_sign, z_this_tape_fault_2, z_this_tape_start, z_this_tape_stop, z_a1_people, z_a1_weight, z_a1_told, z_a1_startRung, z_a1_startWant)) else (bnd1 (f1_takesPerson z_a1_people z_a1_startBroken z_a1_room z_a1_startRung r_1) (fun r_5 =>
if r_5 = 0 then (bnd2 (f9_refuse z_this_tape_fault_2 z_this_tape_start (1 : Int32)) (fun r_50 z_this_tape_fault_51 =>
if r_50 = 0 ∨ r_50 = 1 then some (r_50, z_this_tape_kind, z_this_tape_sign, z_this_tape_fault_51, z_this_tape_start, z_this_tape_stop, z_a1_people, z_a1_weight, z_a1_told, z_a1_startRung, z_a1_startWant) else none)) else (bnd4 (f9_advance z_this_tape_bytes z_this_tape_length z_this_tape_kind z_this_tape_sign z_this_tape_start z_this_tape_stop) (fun z_this_tape_kind_8 z_this_tape_sign_9 z_this_tape_start_10 z_this_tape_stop_11 =>
bnd2 (f2_number z_this_tape_bytes z_this_tape_kind_8 z_this_tape_fault_2 z_this_tape_start_10 z_this_tape_stop_11 (1 : Int32) (20 : Int32)) (fun r_13 z_this_tape_fault_14 =>
if r_13 = (-1 : Int32) then (some ((0 : Int32), z_this_tape_kind_8, z_this_tape_sign_9, z_this_tape_fault_14, z_this_tape_start_10, z_this_tape_stop_11, z_a1_people, z_a1_weight, z_a1_told, z_a1_startRung, z_a1_startWant)) else (bnd4 (f9_advance z_this_tape_bytes z_this_tape_length z_this_tape_kind_8 z_this_tape_sign_9 z_this_tape_start_10 z_this_tape_stop_11) (fun z_this_tape_kind_17 z_this_tape_sign_18 z_this_tape_start_19 z_this_tape_stop_20 =>
bnd2 (f2_number z_this_tape_bytes z_this_tape_kind_17 z_this_tape_fault_14 z_this_tape_start_19 z_this_tape_stop_20 (1 : Int32) (30 : Int32)) (fun r_22 z_this_tape_fault_23 =>
if r_22 = (-1 : Int32) then (some ((0 : Int32), z_this_tape_kind_17, z_this_tape_sign_18, z_this_tape_fault_23, z_this_tape_start_19, z_this_tape_stop_20, z_a1_people, z_a1_weight, z_a1_told, z_a1_startRung, z_a1_startWant)) else (bnd4 (f9_advance z_this_tape_bytes z_this_tape_length z_this_tape_kind_17 z_this_tape_sign_18 z_this_tape_start_19 z_this_tape_stop_20) (fun z_this_tape_kind_26 z_this_tape_sign_27 z_this_tape_start_28 z_this_tape_stop_29 =>
bnd2 (f2_number z_this_tape_bytes z_this_tape_kind_26 z_this_tape_fault_23 z_this_tape_start_28 z_this_tape_stop_29 (0 : Int32) (z_a1_rungs - (1 : Int32))) (fun r_31 z_this_tape_fault_32 =>
if r_31 = (-1 : Int32) then (some ((0 : Int32), z_this_tape_kind_26, z_this_tape_sign_27, z_this_tape_fault_32, z_this_tape_start_28, z_this_tape_stop_29, z_a1_people, z_a1_weight, z_a1_told, z_a1_startRung, z_a1_startWant)) else (if z_a1_people < (4 : Int32) then (bnd4 (f9_advance z_this_tape_bytes z_this_tape_length z_this_tape_kind_26 z_this_tape_sign_27 z_this_tape_start_28 z_this_tape_stop_29) (fun z_this_tape_kind_36 z_this_tape_sign_37 z_this_tape_start_38 z_this_tape_stop_39 =>
if z_a1_people < 0 ∨ 4 ≤ Int32.toNatClampNeg z_a1_people then none else (
lt (upd z_a1_startRung (Int32.toNatClampNeg z_a1_people) r_1) (fun z_a1_startRung_42 =>
if z_a1_people < 0 ∨ 4 ≤ Int32.toNatClampNeg z_a1_people then none else (
lt (upd z_a1_weight (Int32.toNatClampNeg z_a1_people) r_13) (fun z_a1_weight_44 =>
if z_a1_people < 0 ∨ 4 ≤ Int32.toNatClampNeg z_a1_people then none else (
lt (upd z_a1_told (Int32.toNatClampNeg z_a1_people) r_22) (fun z_a1_told_46 =>
if z_a1_people < 0 ∨ 4 ≤ Int32.toNatClampNeg z_a1_people then none else (
lt (upd z_a1_startWant (Int32.toNatClampNeg z_a1_people) r_31) (fun z_a1_startWant_48 =>
lt ((z_a1_people + (1 : Int32))) (fun x_49 =>
some ((1 : Int32), z_this_tape_kind_36, z_this_tape_sign_37, z_this_tape_fault_32, z_this_tape_start_38, z_this_tape_stop_39, x_49, z_a1_weight_44, z_a1_told_46, z_a1_startRung_42, z_a1_startWant_48)))))))))))) else (some ((0 : Int32), z_this_tape_kind_26, z_this_tape_sign_27, z_this_tape_fault_32, z_this_tape_start_28, z_this_tape_stop_29, z_a1_people, z_a1_weight, z_a1_told, z_a1_startRung, z_a1_startWant)))))))))))))))

abbrev rm_f2_readPerson : Room := { frames := 2, cells := 0, slots := 0, locals := 45 }
theorem hd_f2_readPerson : yX2_readPerson.cls = RX2 ∧ yX2_readPerson.cls ≠ "java/lang/invoke/MethodHandle" ∧ yX2_readPerson.cls ≠ "java/lang/invoke/VarHandle" ∧ (parseMethodDescriptor yX2_readPerson.desc).map (fun d => d.parameters.length) = some 1 := by decide +kernel
set_option maxHeartbeats 4000000 in
set_option maxRecDepth 100000 in
theorem c2_readPerson {l : Launch} {D : va_G} {ad_this : Nat → Nat} {cy_this : Nat → ClassId} {ad_this_tape : Nat → Nat} {cy_this_tape : Nat → ClassId} {z_this_tape_bytes : Nat → Int32} {z_this_tape_length : Int32} {z_this_tape_kind : Int32} {z_this_tape_sign : Int32} {z_this_tape_fault : Int32} {z_this_tape_start : Int32} {z_this_tape_stop : Int32} {ad_a1 : Nat → Nat} {cy_a1 : Nat → ClassId} {z_a1_rungs : Int32} {z_a1_people : Int32} {z_a1_startBroken : Int32} {z_a1_room : Nat → Int32} {z_a1_strength : Nat → Int32} {z_a1_weight : Nat → Int32} {z_a1_told : Nat → Int32} {z_a1_startRung : Nat → Int32} {z_a1_startWant : Nat → Int32} {o_ret : Int32} {o_this_tape_kind : Int32} {o_this_tape_sign : Int32} {o_this_tape_fault : Int32} {o_this_tape_start : Int32} {o_this_tape_stop : Int32} {o_a1_people : Int32} {o_a1_weight : Nat → Int32} {o_a1_told : Nat → Int32} {o_a1_startRung : Nat → Int32} {o_a1_startWant : Nat → Int32} (h : f2_readPerson z_this_tape_bytes z_this_tape_length z_this_tape_kind z_this_tape_sign z_this_tape_fault z_this_tape_start z_this_tape_stop z_a1_rungs z_a1_people z_a1_startBroken z_a1_room z_a1_weight z_a1_told z_a1_startRung z_a1_startWant = some (o_ret, o_this_tape_kind, o_this_tape_sign, o_this_tape_fault, o_this_tape_start, o_this_tape_stop, o_a1_people, o_a1_weight, o_a1_told, o_a1_startRung, o_a1_startWant)) : MetI l yX2_readPerson cX2_readPerson 7 (some .boolean) rm_f2_readPerson D ([(cy_this_tape 1, .int), (cy_a1 1, .int), (cy_a1 2, .int), (cy_a1 3, .int), (cy_a1 4, .int), (cy_a1 5, .int), (cy_a1 6, .int)]) (cLR ad_this cy_this (ad_this_tape 0) ++ cTp ad_this_tape cy_this_tape z_this_tape_bytes z_this_tape_length z_this_tape_kind z_this_tape_sign z_this_tape_fault z_this_tape_start z_this_tape_stop ++ cLd ad_a1 cy_a1 z_a1_rungs z_a1_people z_a1_startBroken z_a1_room z_a1_strength z_a1_weight z_a1_told z_a1_startRung z_a1_startWant) (cLR ad_this cy_this (ad_this_tape 0) ++ cTp ad_this_tape cy_this_tape z_this_tape_bytes z_this_tape_length o_this_tape_kind o_this_tape_sign o_this_tape_fault o_this_tape_start o_this_tape_stop ++ cLd ad_a1 cy_a1 z_a1_rungs o_a1_people z_a1_startBroken z_a1_room z_a1_strength o_a1_weight o_a1_told o_a1_startRung o_a1_startWant) [.ref (ad_this 0), .ref (ad_a1 0)] o_ret := by
  refine metI_of (own := RX2) rfl (by decide) (Nat.le_of_ble_eq_true rfl) ?_
  intro p e s m args below meth c A Q ls S hK hA hP hD hS hl hret
  obtain ⟨hx, hb, hml, hown, hts⟩ := id S
  replace hl : lv_has ls 7 [(0, .ref (ad_this 0)), (1, .ref (ad_a1 0))] := hl
  generalize hH : s.heap = H at hP ⊢
  replace hS : va_S A s.heap H [] := by rw [← hH]; exact hS
  generalize hlo : ([] : List Loc) = locs at hS ⊢
  unfold f2_readPerson at h
  refine lv_aload_n hx hb dX2_readPerson_0 rfl (lv_at hl 0 rfl) ?_
  refine lv_iconst (v := (0 : Int32)) hx hb dX2_readPerson_1 (by decide) ?_
  refine lv_aload_n hx hb dX2_readPerson_2 rfl (lv_at hl 1 rfl) ?_
  refine va_get (ci := 1) (v := .int z_a1_rungs) (C := RX1) (T := TX1) (N := 9) hx hb hts inlX1 hown hK hP 3 rfl rfl 0 (by decide) (hts _ mw_13_2) (fun _ h9 => h9) rfl dX2_readPerson_3 ?_
  refine lv_iconst (v := (1 : Int32)) hx hb dX2_readPerson_6 (by decide) ?_
  refine lv_isub hx hb dX2_readPerson_7 ?_
  obtain ⟨r_1, z_this_tape_fault_2, hc3, h⟩ := bnd2_el h
  refine mfV_i (As := [.int (0 : Int32), .int (z_a1_rungs - (1 : Int32))]) (rest := []) (wc := cLR ad_this cy_this (ad_this_tape 0) ++ cTp ad_this_tape cy_this_tape z_this_tape_bytes z_this_tape_length z_this_tape_kind z_this_tape_sign z_this_tape_fault z_this_tape_start z_this_tape_stop) (wr := cLd ad_a1 cy_a1 z_a1_rungs z_a1_people z_a1_startBroken z_a1_room z_a1_strength z_a1_weight z_a1_told z_a1_startRung z_a1_startWant) (wf := cLR ad_this cy_this (ad_this_tape 0) ++ cTp ad_this_tape cy_this_tape z_this_tape_bytes z_this_tape_length z_this_tape_kind z_this_tape_sign z_this_tape_fault_2 z_this_tape_start z_this_tape_stop ++ cLd ad_a1 cy_a1 z_a1_rungs z_a1_people z_a1_startBroken z_a1_room z_a1_strength z_a1_weight z_a1_told z_a1_startRung z_a1_startWant) S hK hP hD hS hA (c2_number hc3) [0] [0, 1, 2] [3, 4, 5, 6, 7, 8, 9] [7, 8, 9, 0, 1, 2, 3, 4, 5, 6] rfl rfl rfl (by decide) (by decide) (by decide) rfl (by decide) (gdV mw_13_3 mw_13_4 mw_13_5 mw_1_21 mw_13_6) rfl rfl hd_f2_number ⟨Nat.le_of_ble_eq_true rfl, Nat.le_of_ble_eq_true rfl⟩ (ci := 2) (q0 := 0) rfl rfl rfl hl.1 rfl (Nat.le_of_ble_eq_true rfl) dX2_readPerson_8 (fun H locs hP hD hS => ?_)
  refine lv_istore_n (lv' := [(2, .int r_1), (0, .ref (ad_this 0)), (1, .ref (ad_a1 0))]) hx hb dX2_readPerson_11 rfl hl (by decide) rfl (fun ls hl => ?_)
  refine lv_iload_n hx hb dX2_readPerson_12 rfl (lv_at hl 0 rfl) ?_
  refine lv_iconst (v := (-1 : Int32)) hx hb dX2_readPerson_13 (by decide) ?_
  refine lv_icmp_ne (tgt := 19) hx hb dX2_readPerson_14 rfl (fun c4 => ?_) (fun c4 => ?_)
  · replace h := ite_f c4 h
    refine lv_aload_n hx hb dX2_readPerson_19 rfl (lv_at hl 2 rfl) ?_
    refine lv_iload_n hx hb dX2_readPerson_20 rfl (lv_at hl 0 rfl) ?_
    obtain ⟨r_5, hc6, h⟩ := bnd1_el h
    refine mfV_i (As := [.int r_1]) (rest := []) (wc := cLd ad_a1 cy_a1 z_a1_rungs z_a1_people z_a1_startBroken z_a1_room z_a1_strength z_a1_weight z_a1_told z_a1_startRung z_a1_startWant) (wr := cLR ad_this cy_this (ad_this_tape 0) ++ cTp ad_this_tape cy_this_tape z_this_tape_bytes z_this_tape_length z_this_tape_kind z_this_tape_sign z_this_tape_fault_2 z_this_tape_start z_this_tape_stop) (wf := cLR ad_this cy_this (ad_this_tape 0) ++ cTp ad_this_tape cy_this_tape z_this_tape_bytes z_this_tape_length z_this_tape_kind z_this_tape_sign z_this_tape_fault_2 z_this_tape_start z_this_tape_stop ++ cLd ad_a1 cy_a1 z_a1_rungs z_a1_people z_a1_startBroken z_a1_room z_a1_strength z_a1_weight z_a1_told z_a1_startRung z_a1_startWant) S hK hP hD hS hA (c1_takesPerson hc6) [1, 2, 3, 4, 5, 6] [3, 4, 5, 6, 7, 8, 9] [0, 1, 2] [0, 1, 2, 3, 4, 5, 6, 7, 8, 9] rfl rfl rfl (by decide) (by decide) (by decide) rfl (by decide) (gdV mw_14_15 mw_14_16 mw_14_17 mw_1_14 mw_14_18) rfl rfl hd_f1_takesPerson ⟨Nat.le_of_ble_eq_true rfl, Nat.le_of_ble_eq_true rfl⟩ (ci := 1) (q0 := 0) rfl rfl rfl hl.1 rfl (Nat.le_of_ble_eq_true rfl) dX2_readPerson_21 (fun H locs hP hD hS => ?_)
    refine lv_if_ne (tgt := 36) hx hb dX2_readPerson_24 rfl (fun c7 => ?_) (fun c7 => ?_)
    · replace h := ite_f c7 h
      refine lv_aload_n hx hb dX2_readPerson_36 rfl (lv_at hl 1 rfl) ?_
      refine va_get (ci := 2) (v := .ref (ad_this_tape 0)) (C := RX2) (T := TX2) (N := 1) hx hb hts inlX2 hown hK hP 0 rfl rfl 0 (by decide) (hts _ mw_4_6) (fun _ h9 => h9) rfl dX2_readPerson_37 ?_
      obtain ⟨z_this_tape_kind_8, z_this_tape_sign_9, z_this_tape_start_10, z_this_tape_stop_11, hc12, h⟩ := bnd4_el h
      refine mfV_v (As := []) (rest := []) (wc := cTp ad_this_tape cy_this_tape z_this_tape_bytes z_this_tape_length z_this_tape_kind z_this_tape_sign z_this_tape_fault_2 z_this_tape_start z_this_tape_stop) (wr := cLR ad_this cy_this (ad_this_tape 0) ++ cLd ad_a1 cy_a1 z_a1_rungs z_a1_people z_a1_startBroken z_a1_room z_a1_strength z_a1_weight z_a1_told z_a1_startRung z_a1_startWant) (wf := cLR ad_this cy_this (ad_this_tape 0) ++ cTp ad_this_tape cy_this_tape z_this_tape_bytes z_this_tape_length z_this_tape_kind_8 z_this_tape_sign_9 z_this_tape_fault_2 z_this_tape_start_10 z_this_tape_stop_11 ++ cLd ad_a1 cy_a1 z_a1_rungs z_a1_people z_a1_startBroken z_a1_room z_a1_strength z_a1_weight z_a1_told z_a1_startRung z_a1_startWant) S hK hP hD hS hA (c9_advance hc12) [0] [1, 2] [0, 3, 4, 5, 6, 7, 8, 9] [0, 8, 9, 1, 2, 3, 4, 5, 6, 7] rfl rfl rfl (by decide) (by decide) (by decide) rfl (by decide) (gdV mw_12_21 mw_10_1 mw_10_2 mw_1_17 mw_10_3) rfl rfl hd_f9_advance ⟨Nat.le_of_ble_eq_true rfl, Nat.le_of_ble_eq_true rfl⟩ (ci := 9) (q0 := 0) rfl rfl rfl hl.1 rfl (Nat.le_of_ble_eq_true rfl) dX2_readPerson_40 (fun H locs hP hD hS => ?_)
      refine lv_aload_n hx hb dX2_readPerson_43 rfl (lv_at hl 1 rfl) ?_
      refine lv_iconst (v := (1 : Int32)) hx hb dX2_readPerson_44 (by decide) ?_
      refine lv_bipush (v := (20 : Int32)) hx hb dX2_readPerson_45 (by decide) ?_
      obtain ⟨r_13, z_this_tape_fault_14, hc15, h⟩ := bnd2_el h
      refine mfV_i (As := [.int (1 : Int32), .int (20 : Int32)]) (rest := []) (wc := cLR ad_this cy_this (ad_this_tape 0) ++ cTp ad_this_tape cy_this_tape z_this_tape_bytes z_this_tape_length z_this_tape_kind_8 z_this_tape_sign_9 z_this_tape_fault_2 z_this_tape_start_10 z_this_tape_stop_11) (wr := cLd ad_a1 cy_a1 z_a1_rungs z_a1_people z_a1_startBroken z_a1_room z_a1_strength z_a1_weight z_a1_told z_a1_startRung z_a1_startWant) (wf := cLR ad_this cy_this (ad_this_tape 0) ++ cTp ad_this_tape cy_this_tape z_this_tape_bytes z_this_tape_length z_this_tape_kind_8 z_this_tape_sign_9 z_this_tape_fault_14 z_this_tape_start_10 z_this_tape_stop_11 ++ cLd ad_a1 cy_a1 z_a1_rungs z_a1_people z_a1_startBroken z_a1_room z_a1_strength z_a1_weight z_a1_told z_a1_startRung z_a1_startWant) S hK hP hD hS hA (c2_number hc15) [0] [0, 1, 2] [3, 4, 5, 6, 7, 8, 9] [7, 8, 9, 0, 1, 2, 3, 4, 5, 6] rfl rfl rfl (by decide) (by decide) (by decide) rfl (by decide) (gdV mw_13_3 mw_13_4 mw_13_5 mw_1_21 mw_13_6) rfl rfl hd_f2_number ⟨Nat.le_of_ble_eq_true rfl, Nat.le_of_ble_eq_true rfl⟩ (ci := 2) (q0 := 0) rfl rfl rfl hl.1 rfl (Nat.le_of_ble_eq_true rfl) dX2_readPerson_47 (fun H locs hP hD hS => ?_)
      refine lv_istore_n (lv' := [(3, .int r_13), (2, .int r_1), (0, .ref (ad_this 0)), (1, .ref (ad_a1 0))]) hx hb dX2_readPerson_50 rfl hl (by decide) rfl (fun ls hl => ?_)
      refine lv_iload_n hx hb dX2_readPerson_51 rfl (lv_at hl 0 rfl) ?_
      refine lv_iconst (v := (-1 : Int32)) hx hb dX2_readPerson_52 (by decide) ?_
      refine lv_icmp_ne (tgt := 58) hx hb dX2_readPerson_53 rfl (fun c16 => ?_) (fun c16 => ?_)
      · replace h := ite_f c16 h
        refine lv_aload_n hx hb dX2_readPerson_58 rfl (lv_at hl 2 rfl) ?_
        refine va_get (ci := 2) (v := .ref (ad_this_tape 0)) (C := RX2) (T := TX2) (N := 1) hx hb hts inlX2 hown hK hP 0 rfl rfl 0 (by decide) (hts _ mw_4_6) (fun _ h9 => h9) rfl dX2_readPerson_59 ?_
        obtain ⟨z_this_tape_kind_17, z_this_tape_sign_18, z_this_tape_start_19, z_this_tape_stop_20, hc21, h⟩ := bnd4_el h
        refine mfV_v (As := []) (rest := []) (wc := cTp ad_this_tape cy_this_tape z_this_tape_bytes z_this_tape_length z_this_tape_kind_8 z_this_tape_sign_9 z_this_tape_fault_14 z_this_tape_start_10 z_this_tape_stop_11) (wr := cLR ad_this cy_this (ad_this_tape 0) ++ cLd ad_a1 cy_a1 z_a1_rungs z_a1_people z_a1_startBroken z_a1_room z_a1_strength z_a1_weight z_a1_told z_a1_startRung z_a1_startWant) (wf := cLR ad_this cy_this (ad_this_tape 0) ++ cTp ad_this_tape cy_this_tape z_this_tape_bytes z_this_tape_length z_this_tape_kind_17 z_this_tape_sign_18 z_this_tape_fault_14 z_this_tape_start_19 z_this_tape_stop_20 ++ cLd ad_a1 cy_a1 z_a1_rungs z_a1_people z_a1_startBroken z_a1_room z_a1_strength z_a1_weight z_a1_told z_a1_startRung z_a1_startWant) S hK hP hD hS hA (c9_advance hc21) [0] [1, 2] [0, 3, 4, 5, 6, 7, 8, 9] [0, 8, 9, 1, 2, 3, 4, 5, 6, 7] rfl rfl rfl (by decide) (by decide) (by decide) rfl (by decide) (gdV mw_12_21 mw_10_1 mw_10_2 mw_1_17 mw_10_3) rfl rfl hd_f9_advance ⟨Nat.le_of_ble_eq_true rfl, Nat.le_of_ble_eq_true rfl⟩ (ci := 9) (q0 := 0) rfl rfl rfl hl.1 rfl (Nat.le_of_ble_eq_true rfl) dX2_readPerson_62 (fun H locs hP hD hS => ?_)
        refine lv_aload_n hx hb dX2_readPerson_65 rfl (lv_at hl 2 rfl) ?_
        refine lv_iconst (v := (1 : Int32)) hx hb dX2_readPerson_66 (by decide) ?_
        refine lv_bipush (v := (30 : Int32)) hx hb dX2_readPerson_67 (by decide) ?_
        obtain ⟨r_22, z_this_tape_fault_23, hc24, h⟩ := bnd2_el h
        refine mfV_i (As := [.int (1 : Int32), .int (30 : Int32)]) (rest := []) (wc := cLR ad_this cy_this (ad_this_tape 0) ++ cTp ad_this_tape cy_this_tape z_this_tape_bytes z_this_tape_length z_this_tape_kind_17 z_this_tape_sign_18 z_this_tape_fault_14 z_this_tape_start_19 z_this_tape_stop_20) (wr := cLd ad_a1 cy_a1 z_a1_rungs z_a1_people z_a1_startBroken z_a1_room z_a1_strength z_a1_weight z_a1_told z_a1_startRung z_a1_startWant) (wf := cLR ad_this cy_this (ad_this_tape 0) ++ cTp ad_this_tape cy_this_tape z_this_tape_bytes z_this_tape_length z_this_tape_kind_17 z_this_tape_sign_18 z_this_tape_fault_23 z_this_tape_start_19 z_this_tape_stop_20 ++ cLd ad_a1 cy_a1 z_a1_rungs z_a1_people z_a1_startBroken z_a1_room z_a1_strength z_a1_weight z_a1_told z_a1_startRung z_a1_startWant) S hK hP hD hS hA (c2_number hc24) [0] [0, 1, 2] [3, 4, 5, 6, 7, 8, 9] [7, 8, 9, 0, 1, 2, 3, 4, 5, 6] rfl rfl rfl (by decide) (by decide) (by decide) rfl (by decide) (gdV mw_13_3 mw_13_4 mw_13_5 mw_1_21 mw_13_6) rfl rfl hd_f2_number ⟨Nat.le_of_ble_eq_true rfl, Nat.le_of_ble_eq_true rfl⟩ (ci := 2) (q0 := 0) rfl rfl rfl hl.1 rfl (Nat.le_of_ble_eq_true rfl) dX2_readPerson_69 (fun H locs hP hD hS => ?_)
        refine lv_istore (lv' := [(4, .int r_22), (3, .int r_13), (2, .int r_1), (0, .ref (ad_this 0)), (1, .ref (ad_a1 0))]) hx hb dX2_readPerson_72 hl (by decide) rfl (fun ls hl => ?_)
        refine lv_iload hx hb dX2_readPerson_74 (lv_at hl 0 rfl) ?_
        refine lv_iconst (v := (-1 : Int32)) hx hb dX2_readPerson_76 (by decide) ?_
        refine lv_icmp_ne (tgt := 82) hx hb dX2_readPerson_77 rfl (fun c25 => ?_) (fun c25 => ?_)
        · replace h := ite_f c25 h
          refine lv_aload_n hx hb dX2_readPerson_82 rfl (lv_at hl 3 rfl) ?_
          refine va_get (ci := 2) (v := .ref (ad_this_tape 0)) (C := RX2) (T := TX2) (N := 1) hx hb hts inlX2 hown hK hP 0 rfl rfl 0 (by decide) (hts _ mw_4_6) (fun _ h9 => h9) rfl dX2_readPerson_83 ?_
          obtain ⟨z_this_tape_kind_26, z_this_tape_sign_27, z_this_tape_start_28, z_this_tape_stop_29, hc30, h⟩ := bnd4_el h
          refine mfV_v (As := []) (rest := []) (wc := cTp ad_this_tape cy_this_tape z_this_tape_bytes z_this_tape_length z_this_tape_kind_17 z_this_tape_sign_18 z_this_tape_fault_23 z_this_tape_start_19 z_this_tape_stop_20) (wr := cLR ad_this cy_this (ad_this_tape 0) ++ cLd ad_a1 cy_a1 z_a1_rungs z_a1_people z_a1_startBroken z_a1_room z_a1_strength z_a1_weight z_a1_told z_a1_startRung z_a1_startWant) (wf := cLR ad_this cy_this (ad_this_tape 0) ++ cTp ad_this_tape cy_this_tape z_this_tape_bytes z_this_tape_length z_this_tape_kind_26 z_this_tape_sign_27 z_this_tape_fault_23 z_this_tape_start_28 z_this_tape_stop_29 ++ cLd ad_a1 cy_a1 z_a1_rungs z_a1_people z_a1_startBroken z_a1_room z_a1_strength z_a1_weight z_a1_told z_a1_startRung z_a1_startWant) S hK hP hD hS hA (c9_advance hc30) [0] [1, 2] [0, 3, 4, 5, 6, 7, 8, 9] [0, 8, 9, 1, 2, 3, 4, 5, 6, 7] rfl rfl rfl (by decide) (by decide) (by decide) rfl (by decide) (gdV mw_12_21 mw_10_1 mw_10_2 mw_1_17 mw_10_3) rfl rfl hd_f9_advance ⟨Nat.le_of_ble_eq_true rfl, Nat.le_of_ble_eq_true rfl⟩ (ci := 9) (q0 := 0) rfl rfl rfl hl.1 rfl (Nat.le_of_ble_eq_true rfl) dX2_readPerson_86 (fun H locs hP hD hS => ?_)
          refine lv_aload_n hx hb dX2_readPerson_89 rfl (lv_at hl 3 rfl) ?_
          refine lv_iconst (v := (0 : Int32)) hx hb dX2_readPerson_90 (by decide) ?_
          refine lv_aload_n hx hb dX2_readPerson_91 rfl (lv_at hl 4 rfl) ?_
          refine va_get (ci := 1) (v := .int z_a1_rungs) (C := RX1) (T := TX1) (N := 9) hx hb hts inlX1 hown hK hP 3 rfl rfl 0 (by decide) (hts _ mw_13_2) (fun _ h9 => h9) rfl dX2_readPerson_92 ?_
          refine lv_iconst (v := (1 : Int32)) hx hb dX2_readPerson_95 (by decide) ?_
          refine lv_isub hx hb dX2_readPerson_96 ?_
          obtain ⟨r_31, z_this_tape_fault_32, hc33, h⟩ := bnd2_el h
          refine mfV_i (As := [.int (0 : Int32), .int (z_a1_rungs - (1 : Int32))]) (rest := []) (wc := cLR ad_this cy_this (ad_this_tape 0) ++ cTp ad_this_tape cy_this_tape z_this_tape_bytes z_this_tape_length z_this_tape_kind_26 z_this_tape_sign_27 z_this_tape_fault_23 z_this_tape_start_28 z_this_tape_stop_29) (wr := cLd ad_a1 cy_a1 z_a1_rungs z_a1_people z_a1_startBroken z_a1_room z_a1_strength z_a1_weight z_a1_told z_a1_startRung z_a1_startWant) (wf := cLR ad_this cy_this (ad_this_tape 0) ++ cTp ad_this_tape cy_this_tape z_this_tape_bytes z_this_tape_length z_this_tape_kind_26 z_this_tape_sign_27 z_this_tape_fault_32 z_this_tape_start_28 z_this_tape_stop_29 ++ cLd ad_a1 cy_a1 z_a1_rungs z_a1_people z_a1_startBroken z_a1_room z_a1_strength z_a1_weight z_a1_told z_a1_startRung z_a1_startWant) S hK hP hD hS hA (c2_number hc33) [0] [0, 1, 2] [3, 4, 5, 6, 7, 8, 9] [7, 8, 9, 0, 1, 2, 3, 4, 5, 6] rfl rfl rfl (by decide) (by decide) (by decide) rfl (by decide) (gdV mw_13_3 mw_13_4 mw_13_5 mw_1_21 mw_13_6) rfl rfl hd_f2_number ⟨Nat.le_of_ble_eq_true rfl, Nat.le_of_ble_eq_true rfl⟩ (ci := 2) (q0 := 0) rfl rfl rfl hl.1 rfl (Nat.le_of_ble_eq_true rfl) dX2_readPerson_97 (fun H locs hP hD hS => ?_)
          refine lv_istore (lv' := [(5, .int r_31), (4, .int r_22), (3, .int r_13), (2, .int r_1), (0, .ref (ad_this 0)), (1, .ref (ad_a1 0))]) hx hb dX2_readPerson_100 hl (by decide) rfl (fun ls hl => ?_)
          refine lv_iload hx hb dX2_readPerson_102 (lv_at hl 0 rfl) ?_
          refine lv_iconst (v := (-1 : Int32)) hx hb dX2_readPerson_104 (by decide) ?_
          refine lv_icmp_eq (tgt := 116) hx hb dX2_readPerson_105 rfl (fun c34 => ?_) (fun c34 => ?_)
          · replace h := ite_t c34 h
            refine lv_iconst (v := (0 : Int32)) hx hb dX2_readPerson_116 (by decide) ?_
            obtain ⟨e_0, e_1, e_2, e_3, e_4, e_5, e_6, e_7, e_8, e_9, e_10⟩ := inj11 h
            subst e_0
            subst e_1
            subst e_2
            subst e_3
            subst e_4
            subst e_5
            subst e_6
            subst e_7
            subst e_8
            subst e_9
            subst e_10
            exact hret _ _ _ _ _ hP hD hS rfl nz0 dX2_readPerson_117
          · replace h := ite_f c34 h
            refine lv_aload_n hx hb dX2_readPerson_108 rfl (lv_at hl 5 rfl) ?_
            refine va_get (ci := 1) (v := .int z_a1_people) (C := RX1) (T := TX1) (N := 9) hx hb hts inlX1 hown hK hP 3 rfl rfl 1 (by decide) (hts _ mw_10_11) (fun _ h9 => h9) rfl dX2_readPerson_109 ?_
            refine lv_iconst (v := (4 : Int32)) hx hb dX2_readPerson_112 (by decide) ?_
            refine lv_icmp_lt (tgt := 118) hx hb dX2_readPerson_113 rfl (fun c35 => ?_) (fun c35 => ?_)
            · replace h := ite_t c35 h
              refine lv_aload_n hx hb dX2_readPerson_118 rfl (lv_at hl 4 rfl) ?_
              refine va_get (ci := 2) (v := .ref (ad_this_tape 0)) (C := RX2) (T := TX2) (N := 1) hx hb hts inlX2 hown hK hP 0 rfl rfl 0 (by decide) (hts _ mw_4_6) (fun _ h9 => h9) rfl dX2_readPerson_119 ?_
              obtain ⟨z_this_tape_kind_36, z_this_tape_sign_37, z_this_tape_start_38, z_this_tape_stop_39, hc40, h⟩ := bnd4_el h
              refine mfV_v (As := []) (rest := []) (wc := cTp ad_this_tape cy_this_tape z_this_tape_bytes z_this_tape_length z_this_tape_kind_26 z_this_tape_sign_27 z_this_tape_fault_32 z_this_tape_start_28 z_this_tape_stop_29) (wr := cLR ad_this cy_this (ad_this_tape 0) ++ cLd ad_a1 cy_a1 z_a1_rungs z_a1_people z_a1_startBroken z_a1_room z_a1_strength z_a1_weight z_a1_told z_a1_startRung z_a1_startWant) (wf := cLR ad_this cy_this (ad_this_tape 0) ++ cTp ad_this_tape cy_this_tape z_this_tape_bytes z_this_tape_length z_this_tape_kind_36 z_this_tape_sign_37 z_this_tape_fault_32 z_this_tape_start_38 z_this_tape_stop_39 ++ cLd ad_a1 cy_a1 z_a1_rungs z_a1_people z_a1_startBroken z_a1_room z_a1_strength z_a1_weight z_a1_told z_a1_startRung z_a1_startWant) S hK hP hD hS hA (c9_advance hc40) [0] [1, 2] [0, 3, 4, 5, 6, 7, 8, 9] [0, 8, 9, 1, 2, 3, 4, 5, 6, 7] rfl rfl rfl (by decide) (by decide) (by decide) rfl (by decide) (gdV mw_12_21 mw_10_1 mw_10_2 mw_1_17 mw_10_3) rfl rfl hd_f9_advance ⟨Nat.le_of_ble_eq_true rfl, Nat.le_of_ble_eq_true rfl⟩ (ci := 9) (q0 := 0) rfl rfl rfl hl.1 rfl (Nat.le_of_ble_eq_true rfl) dX2_readPerson_122 (fun H locs hP hD hS => ?_)
              refine lv_aload_n hx hb dX2_readPerson_125 rfl (lv_at hl 5 rfl) ?_
              refine va_get (ci := 1) (v := .int z_a1_people) (C := RX1) (T := TX1) (N := 9) hx hb hts inlX1 hown hK hP 3 rfl rfl 1 (by decide) (hts _ mw_10_11) (fun _ h9 => h9) rfl dX2_readPerson_126 ?_
              refine lv_istore (lv' := [(6, .int z_a1_people), (5, .int r_31), (4, .int r_22), (3, .int r_13), (2, .int r_1), (0, .ref (ad_this 0)), (1, .ref (ad_a1 0))]) hx hb dX2_readPerson_129 hl (by decide) rfl (fun ls hl => ?_)
              refine lv_aload_n hx hb dX2_readPerson_131 rfl (lv_at hl 6 rfl) ?_
              refine va_get (ci := 1) (v := .ref (ad_a1 5)) (C := RX1) (T := TX1) (N := 9) hx hb hts inlX1 hown hK hP 3 rfl rfl 7 (by decide) (hts _ mw_14_11) (fun _ h9 => h9) rfl dX2_readPerson_132 ?_
              refine lv_iload hx hb dX2_readPerson_135 (lv_at hl 0 rfl) ?_
              refine lv_iload_n hx hb dX2_readPerson_137 rfl (lv_at hl 4 rfl) ?_
              obtain ⟨b41, h⟩ := bd_el h
              refine as_i (f := z_a1_startRung) hx hb hK hP hD hS 8 5 rfl rfl b41 dX2_readPerson_138 (fun z_a1_startRung_42 H locs ez_a1_startRung_42 hP hD hS => ?_)
              replace h := lt_ex ez_a1_startRung_42 h
              replace hP : va_P D vwCl (cLR ad_this cy_this (ad_this_tape 0) ++ cTp ad_this_tape cy_this_tape z_this_tape_bytes z_this_tape_length z_this_tape_kind_36 z_this_tape_sign_37 z_this_tape_fault_32 z_this_tape_start_38 z_this_tape_stop_39 ++ cLd ad_a1 cy_a1 z_a1_rungs z_a1_people z_a1_startBroken z_a1_room z_a1_strength z_a1_weight z_a1_told z_a1_startRung_42 z_a1_startWant) H := hP
              replace hD : va_D A (cLR ad_this cy_this (ad_this_tape 0) ++ cTp ad_this_tape cy_this_tape z_this_tape_bytes z_this_tape_length z_this_tape_kind_36 z_this_tape_sign_37 z_this_tape_fault_32 z_this_tape_start_38 z_this_tape_stop_39 ++ cLd ad_a1 cy_a1 z_a1_rungs z_a1_people z_a1_startBroken z_a1_room z_a1_strength z_a1_weight z_a1_told z_a1_startRung_42 z_a1_startWant) := hD
              refine lv_aload_n hx hb dX2_readPerson_139 rfl (lv_at hl 6 rfl) ?_
              refine va_get (ci := 1) (v := .ref (ad_a1 3)) (C := RX1) (T := TX1) (N := 9) hx hb hts inlX1 hown hK hP 3 rfl rfl 5 (by decide) (hts _ mw_14_12) (fun _ h9 => h9) rfl dX2_readPerson_140 ?_
              refine lv_iload hx hb dX2_readPerson_143 (lv_at hl 0 rfl) ?_
              refine lv_iload_n hx hb dX2_readPerson_145 rfl (lv_at hl 3 rfl) ?_
              obtain ⟨b43, h⟩ := bd_el h
              refine as_i (f := z_a1_weight) hx hb hK hP hD hS 6 3 rfl rfl b43 dX2_readPerson_146 (fun z_a1_weight_44 H locs ez_a1_weight_44 hP hD hS => ?_)
              replace h := lt_ex ez_a1_weight_44 h
              replace hP : va_P D vwCl (cLR ad_this cy_this (ad_this_tape 0) ++ cTp ad_this_tape cy_this_tape z_this_tape_bytes z_this_tape_length z_this_tape_kind_36 z_this_tape_sign_37 z_this_tape_fault_32 z_this_tape_start_38 z_this_tape_stop_39 ++ cLd ad_a1 cy_a1 z_a1_rungs z_a1_people z_a1_startBroken z_a1_room z_a1_strength z_a1_weight_44 z_a1_told z_a1_startRung_42 z_a1_startWant) H := hP
              replace hD : va_D A (cLR ad_this cy_this (ad_this_tape 0) ++ cTp ad_this_tape cy_this_tape z_this_tape_bytes z_this_tape_length z_this_tape_kind_36 z_this_tape_sign_37 z_this_tape_fault_32 z_this_tape_start_38 z_this_tape_stop_39 ++ cLd ad_a1 cy_a1 z_a1_rungs z_a1_people z_a1_startBroken z_a1_room z_a1_strength z_a1_weight_44 z_a1_told z_a1_startRung_42 z_a1_startWant) := hD
              refine lv_aload_n hx hb dX2_readPerson_147 rfl (lv_at hl 6 rfl) ?_
              refine va_get (ci := 1) (v := .ref (ad_a1 4)) (C := RX1) (T := TX1) (N := 9) hx hb hts inlX1 hown hK hP 3 rfl rfl 6 (by decide) (hts _ mw_14_13) (fun _ h9 => h9) rfl dX2_readPerson_148 ?_
              refine lv_iload hx hb dX2_readPerson_151 (lv_at hl 0 rfl) ?_
              refine lv_iload hx hb dX2_readPerson_153 (lv_at hl 2 rfl) ?_
              obtain ⟨b45, h⟩ := bd_el h
              refine as_i (f := z_a1_told) hx hb hK hP hD hS 7 4 rfl rfl b45 dX2_readPerson_155 (fun z_a1_told_46 H locs ez_a1_told_46 hP hD hS => ?_)
              replace h := lt_ex ez_a1_told_46 h
              replace hP : va_P D vwCl (cLR ad_this cy_this (ad_this_tape 0) ++ cTp ad_this_tape cy_this_tape z_this_tape_bytes z_this_tape_length z_this_tape_kind_36 z_this_tape_sign_37 z_this_tape_fault_32 z_this_tape_start_38 z_this_tape_stop_39 ++ cLd ad_a1 cy_a1 z_a1_rungs z_a1_people z_a1_startBroken z_a1_room z_a1_strength z_a1_weight_44 z_a1_told_46 z_a1_startRung_42 z_a1_startWant) H := hP
              replace hD : va_D A (cLR ad_this cy_this (ad_this_tape 0) ++ cTp ad_this_tape cy_this_tape z_this_tape_bytes z_this_tape_length z_this_tape_kind_36 z_this_tape_sign_37 z_this_tape_fault_32 z_this_tape_start_38 z_this_tape_stop_39 ++ cLd ad_a1 cy_a1 z_a1_rungs z_a1_people z_a1_startBroken z_a1_room z_a1_strength z_a1_weight_44 z_a1_told_46 z_a1_startRung_42 z_a1_startWant) := hD
              refine lv_aload_n hx hb dX2_readPerson_156 rfl (lv_at hl 6 rfl) ?_
              refine va_get (ci := 1) (v := .ref (ad_a1 6)) (C := RX1) (T := TX1) (N := 9) hx hb hts inlX1 hown hK hP 3 rfl rfl 8 (by decide) (hts _ mw_14_14) (fun _ h9 => h9) rfl dX2_readPerson_157 ?_
              refine lv_iload hx hb dX2_readPerson_160 (lv_at hl 0 rfl) ?_
              refine lv_iload hx hb dX2_readPerson_162 (lv_at hl 1 rfl) ?_
              obtain ⟨b47, h⟩ := bd_el h
              refine as_i (f := z_a1_startWant) hx hb hK hP hD hS 9 6 rfl rfl b47 dX2_readPerson_164 (fun z_a1_startWant_48 H locs ez_a1_startWant_48 hP hD hS => ?_)
              replace h := lt_ex ez_a1_startWant_48 h
              replace hP : va_P D vwCl (cLR ad_this cy_this (ad_this_tape 0) ++ cTp ad_this_tape cy_this_tape z_this_tape_bytes z_this_tape_length z_this_tape_kind_36 z_this_tape_sign_37 z_this_tape_fault_32 z_this_tape_start_38 z_this_tape_stop_39 ++ cLd ad_a1 cy_a1 z_a1_rungs z_a1_people z_a1_startBroken z_a1_room z_a1_strength z_a1_weight_44 z_a1_told_46 z_a1_startRung_42 z_a1_startWant_48) H := hP
              replace hD : va_D A (cLR ad_this cy_this (ad_this_tape 0) ++ cTp ad_this_tape cy_this_tape z_this_tape_bytes z_this_tape_length z_this_tape_kind_36 z_this_tape_sign_37 z_this_tape_fault_32 z_this_tape_start_38 z_this_tape_stop_39 ++ cLd ad_a1 cy_a1 z_a1_rungs z_a1_people z_a1_startBroken z_a1_room z_a1_strength z_a1_weight_44 z_a1_told_46 z_a1_startRung_42 z_a1_startWant_48) := hD
              refine lv_aload_n hx hb dX2_readPerson_165 rfl (lv_at hl 6 rfl) ?_
              refine lv_dup hx hb dX2_readPerson_166 rfl ?_
              refine va_get (ci := 1) (v := .int z_a1_people) (C := RX1) (T := TX1) (N := 9) hx hb hts inlX1 hown hK hP 3 rfl rfl 1 (by decide) (hts _ mw_10_11) (fun _ h9 => h9) rfl dX2_readPerson_167 ?_
              refine lv_iconst (v := (1 : Int32)) hx hb dX2_readPerson_170 (by decide) ?_
              refine lv_iadd hx hb dX2_readPerson_171 ?_
              refine lv_topi (fun x_49 ex_49 => ?_)
              replace h := lt_ex ex_49 h
              refine va_put (ci := 1) (v := .int x_49) (ty := .int) (C := RX1) (T := TX1) (N := 9) hx hb hts inlX1 tyX1 tyX1_ok nmX1 hown hK hP hD hS 3 rfl rfl 1 (by decide) (hts _ mw_10_11) (fun _ h9 => h9) rfl (by decide +kernel) rfl rfl (Nat.le_of_ble_eq_true rfl) dX2_readPerson_172 (fun H locs hP hD hS => ?_)
              replace hP : va_P D vwCl (cLR ad_this cy_this (ad_this_tape 0) ++ cTp ad_this_tape cy_this_tape z_this_tape_bytes z_this_tape_length z_this_tape_kind_36 z_this_tape_sign_37 z_this_tape_fault_32 z_this_tape_start_38 z_this_tape_stop_39 ++ cLd ad_a1 cy_a1 z_a1_rungs x_49 z_a1_startBroken z_a1_room z_a1_strength z_a1_weight_44 z_a1_told_46 z_a1_startRung_42 z_a1_startWant_48) H := hP
              replace hD : va_D A (cLR ad_this cy_this (ad_this_tape 0) ++ cTp ad_this_tape cy_this_tape z_this_tape_bytes z_this_tape_length z_this_tape_kind_36 z_this_tape_sign_37 z_this_tape_fault_32 z_this_tape_start_38 z_this_tape_stop_39 ++ cLd ad_a1 cy_a1 z_a1_rungs x_49 z_a1_startBroken z_a1_room z_a1_strength z_a1_weight_44 z_a1_told_46 z_a1_startRung_42 z_a1_startWant_48) := hD
              refine lv_iconst (v := (1 : Int32)) hx hb dX2_readPerson_175 (by decide) ?_
              obtain ⟨e_0, e_1, e_2, e_3, e_4, e_5, e_6, e_7, e_8, e_9, e_10⟩ := inj11 h
              subst e_0
              subst e_1
              subst e_2
              subst e_3
              subst e_4
              subst e_5
              subst e_6
              subst e_7
              subst e_8
              subst e_9
              subst e_10
              exact hret _ _ _ _ _ hP hD hS rfl nz1 dX2_readPerson_176
            · replace h := ite_f c35 h
              refine lv_iconst (v := (0 : Int32)) hx hb dX2_readPerson_116 (by decide) ?_
              obtain ⟨e_0, e_1, e_2, e_3, e_4, e_5, e_6, e_7, e_8, e_9, e_10⟩ := inj11 h
              subst e_0
              subst e_1
              subst e_2
              subst e_3
              subst e_4
              subst e_5
              subst e_6
              subst e_7
              subst e_8
              subst e_9
              subst e_10
              exact hret _ _ _ _ _ hP hD hS rfl nz0 dX2_readPerson_117
        · replace h := ite_t c25 h
          refine lv_iconst (v := (0 : Int32)) hx hb dX2_readPerson_80 (by decide) ?_
          obtain ⟨e_0, e_1, e_2, e_3, e_4, e_5, e_6, e_7, e_8, e_9, e_10⟩ := inj11 h
          subst e_0
          subst e_1
          subst e_2
          subst e_3
          subst e_4
          subst e_5
          subst e_6
          subst e_7
          subst e_8
          subst e_9
          subst e_10
          exact hret _ _ _ _ _ hP hD hS rfl nz0 dX2_readPerson_81
      · replace h := ite_t c16 h
        refine lv_iconst (v := (0 : Int32)) hx hb dX2_readPerson_56 (by decide) ?_
        obtain ⟨e_0, e_1, e_2, e_3, e_4, e_5, e_6, e_7, e_8, e_9, e_10⟩ := inj11 h
        subst e_0
        subst e_1
        subst e_2
        subst e_3
        subst e_4
        subst e_5
        subst e_6
        subst e_7
        subst e_8
        subst e_9
        subst e_10
        exact hret _ _ _ _ _ hP hD hS rfl nz0 dX2_readPerson_57
    · replace h := ite_t c7 h
      refine lv_aload_n hx hb dX2_readPerson_27 rfl (lv_at hl 1 rfl) ?_
      refine va_get (ci := 2) (v := .ref (ad_this_tape 0)) (C := RX2) (T := TX2) (N := 1) hx hb hts inlX2 hown hK hP 0 rfl rfl 0 (by decide) (hts _ mw_4_6) (fun _ h9 => h9) rfl dX2_readPerson_28 ?_
      refine lv_iconst (v := (1 : Int32)) hx hb dX2_readPerson_31 (by decide) ?_
      obtain ⟨r_50, z_this_tape_fault_51, hc52, h⟩ := bnd2_el h
      refine mfV_i (As := [.int (1 : Int32)]) (rest := []) (wc := cTp ad_this_tape cy_this_tape z_this_tape_bytes z_this_tape_length z_this_tape_kind z_this_tape_sign z_this_tape_fault_2 z_this_tape_start z_this_tape_stop) (wr := cLR ad_this cy_this (ad_this_tape 0) ++ cLd ad_a1 cy_a1 z_a1_rungs z_a1_people z_a1_startBroken z_a1_room z_a1_strength z_a1_weight z_a1_told z_a1_startRung z_a1_startWant) (wf := cLR ad_this cy_this (ad_this_tape 0) ++ cTp ad_this_tape cy_this_tape z_this_tape_bytes z_this_tape_length z_this_tape_kind z_this_tape_sign z_this_tape_fault_51 z_this_tape_start z_this_tape_stop ++ cLd ad_a1 cy_a1 z_a1_rungs z_a1_people z_a1_startBroken z_a1_room z_a1_strength z_a1_weight z_a1_told z_a1_startRung z_a1_startWant) S hK hP hD hS hA (c9_refuse hc52) [0] [1, 2] [0, 3, 4, 5, 6, 7, 8, 9] [0, 8, 9, 1, 2, 3, 4, 5, 6, 7] rfl rfl rfl (by decide) (by decide) (by decide) rfl (by decide) (gdV mw_12_17 mw_12_18 mw_12_19 mw_1_17 mw_12_20) rfl rfl hd_f9_refuse ⟨Nat.le_of_ble_eq_true rfl, Nat.le_of_ble_eq_true rfl⟩ (ci := 9) (q0 := 0) rfl rfl rfl hl.1 rfl (Nat.le_of_ble_eq_true rfl) dX2_readPerson_32 (fun H locs hP hD hS => ?_)
      obtain ⟨hz, h⟩ := gd_el h
      obtain ⟨e_0, e_1, e_2, e_3, e_4, e_5, e_6, e_7, e_8, e_9, e_10⟩ := inj11 h
      subst e_0
      subst e_1
      subst e_2
      subst e_3
      subst e_4
      subst e_5
      subst e_6
      subst e_7
      subst e_8
      subst e_9
      subst e_10
      exact hret _ _ _ _ _ hP hD hS rfl (nzg hz) dX2_readPerson_35
  · replace h := ite_t c4 h
    refine lv_iconst (v := (0 : Int32)) hx hb dX2_readPerson_17 (by decide) ?_
    obtain ⟨e_0, e_1, e_2, e_3, e_4, e_5, e_6, e_7, e_8, e_9, e_10⟩ := inj11 h
    subst e_0
    subst e_1
    subst e_2
    subst e_3
    subst e_4
    subst e_5
    subst e_6
    subst e_7
    subst e_8
    subst e_9
    subst e_10
    exact hret _ _ _ _ _ hP hD hS rfl nz0 dX2_readPerson_18
/-! LadderLand$LadderReader.readClause(LLadderLand$Ladder;I)Z  -/
def f2_readClause_J82 (z_this_tape_bytes : Nat → Int32) (z_this_tape_length : Int32) (z_this_tape_kind_59 : Int32) (z_this_tape_sign_60 : Int32) (z_this_tape_fault_61 : Int32) (z_this_tape_start_62 : Int32) (z_this_tape_stop_63 : Int32) (z_a1_rungs_64 : Int32) (z_a1_people_65 : Int32) (z_a1_startBroken_66 : Int32) (z_a1_room_67 : Nat → Int32) (z_a1_strength_68 : Nat → Int32) (z_a1_weight_69 : Nat → Int32) (z_a1_told_70 : Nat → Int32) (z_a1_startRung_71 : Nat → Int32) (z_a1_startWant_72 : Nat → Int32) (v3_73 : Int32) : Option (Int32 × Int32 × Int32 × Int32 × Int32 × Int32 × Int32 × Int32 × Int32 × (Nat → Int32) × (Nat → Int32) × (Nat → Int32) × (Nat → Int32) × (Nat → Int32) × (Nat → Int32)) :=
bnd4 (f9_advance z_this_tape_bytes z_this_tape_length z_this_tape_kind_59 z_this_tape_sign_60 z_this_tape_start_62 z_this_tape_stop_63) (fun z_this_tape_kind_81 z_this_tape_sign_82 z_this_tape_start_83 z_this_tape_stop_84 =>
if Int32.toInt v3_73 = 0 then (bnd7 (f2_readRungs z_this_tape_bytes z_this_tape_length z_this_tape_kind_81 z_this_tape_sign_82 z_this_tape_fault_61 z_this_tape_start_83 z_this_tape_stop_84 z_a1_rungs_64) (fun r_86 z_this_tape_kind_87 z_this_tape_sign_88 z_this_tape_fault_89 z_this_tape_start_90 z_this_tape_stop_91 z_a1_rungs_92 =>
if r_86 = 0 ∨ r_86 = 1 then some (r_86, z_this_tape_kind_87, z_this_tape_sign_88, z_this_tape_fault_89, z_this_tape_start_90, z_this_tape_stop_91, z_a1_rungs_92, z_a1_people_65, z_a1_startBroken_66, z_a1_room_67, z_a1_strength_68, z_a1_weight_69, z_a1_told_70, z_a1_startRung_71, z_a1_startWant_72) else none)) else if Int32.toInt v3_73 = 1 then (bnd8 (f2_readRung z_this_tape_bytes z_this_tape_length z_this_tape_kind_81 z_this_tape_sign_82 z_this_tape_fault_61 z_this_tape_start_83 z_this_tape_stop_84 z_a1_rungs_64 z_a1_people_65 z_a1_room_67 z_a1_strength_68 z_a1_startRung_71) (fun r_95 z_this_tape_kind_96 z_this_tape_sign_97 z_this_tape_fault_98 z_this_tape_start_99 z_this_tape_stop_100 z_a1_room_101 z_a1_strength_102 =>
if r_95 = 0 ∨ r_95 = 1 then some (r_95, z_this_tape_kind_96, z_this_tape_sign_97, z_this_tape_fault_98, z_this_tape_start_99, z_this_tape_stop_100, z_a1_rungs_64, z_a1_people_65, z_a1_startBroken_66, z_a1_room_101, z_a1_strength_102, z_a1_weight_69, z_a1_told_70, z_a1_startRung_71, z_a1_startWant_72) else none)) else if Int32.toInt v3_73 = 2 then (bnd7 (f2_readBroken z_this_tape_bytes z_this_tape_length z_this_tape_kind_81 z_this_tape_sign_82 z_this_tape_fault_61 z_this_tape_start_83 z_this_tape_stop_84 z_a1_rungs_64 z_a1_people_65 z_a1_startBroken_66 z_a1_startRung_71) (fun r_105 z_this_tape_kind_106 z_this_tape_sign_107 z_this_tape_fault_108 z_this_tape_start_109 z_this_tape_stop_110 z_a1_startBroken_111 =>
if r_105 = 0 ∨ r_105 = 1 then some (r_105, z_this_tape_kind_106, z_this_tape_sign_107, z_this_tape_fault_108, z_this_tape_start_109, z_this_tape_stop_110, z_a1_rungs_64, z_a1_people_65, z_a1_startBroken_111, z_a1_room_67, z_a1_strength_68, z_a1_weight_69, z_a1_told_70, z_a1_startRung_71, z_a1_startWant_72) else none)) else (bnd11 (f2_readPerson z_this_tape_bytes z_this_tape_length z_this_tape_kind_81 z_this_tape_sign_82 z_this_tape_fault_61 z_this_tape_start_83 z_this_tape_stop_84 z_a1_rungs_64 z_a1_people_65 z_a1_startBroken_66 z_a1_room_67 z_a1_weight_69 z_a1_told_70 z_a1_startRung_71 z_a1_startWant_72) (fun r_114 z_this_tape_kind_115 z_this_tape_sign_116 z_this_tape_fault_117 z_this_tape_start_118 z_this_tape_stop_119 z_a1_people_120 z_a1_weight_121 z_a1_told_122 z_a1_startRung_123 z_a1_startWant_124 =>
if r_114 = 0 ∨ r_114 = 1 then some (r_114, z_this_tape_kind_115, z_this_tape_sign_116, z_this_tape_fault_117, z_this_tape_start_118, z_this_tape_stop_119, z_a1_rungs_64, z_a1_people_120, z_a1_startBroken_66, z_a1_room_67, z_a1_strength_68, z_a1_weight_121, z_a1_told_122, z_a1_startRung_123, z_a1_startWant_124) else none)))

def f2_readClause_J51 (z_this_tape_kind_5 : Int32) (z_this_tape_sign_6 : Int32) (z_this_tape_fault_7 : Int32) (z_this_tape_start_8 : Int32) (z_this_tape_stop_9 : Int32) (z_a1_rungs_10 : Int32) (z_a1_people_11 : Int32) (z_a1_startBroken_12 : Int32) (z_a1_room_13 : Nat → Int32) (z_a1_strength_14 : Nat → Int32) (z_a1_weight_15 : Nat → Int32) (z_a1_told_16 : Nat → Int32) (z_a1_startRung_17 : Nat → Int32) (z_a1_startWant_18 : Nat → Int32) : Option (Int32 × Int32 × Int32 × Int32 × Int32 × Int32 × Int32 × Int32 × Int32 × (Nat → Int32) × (Nat → Int32) × (Nat → Int32) × (Nat → Int32) × (Nat → Int32) × (Nat → Int32)) :=
bnd2 (f9_refuse z_this_tape_fault_7 z_this_tape_start_8 (4 : Int32)) (fun r_78 z_this_tape_fault_79 =>
if r_78 = 0 ∨ r_78 = 1 then some (r_78, z_this_tape_kind_5, z_this_tape_sign_6, z_this_tape_fault_79, z_this_tape_start_8, z_this_tape_stop_9, z_a1_rungs_10, z_a1_people_11, z_a1_startBroken_12, z_a1_room_13, z_a1_strength_14, z_a1_weight_15, z_a1_told_16, z_a1_startRung_17, z_a1_startWant_18) else none)

def f2_readClause_J48 (z_this_tape_bytes : Nat → Int32) (z_this_tape_length : Int32) (z_this_tape_kind_40 : Int32) (z_this_tape_sign_41 : Int32) (z_this_tape_fault_42 : Int32) (z_this_tape_start_43 : Int32) (z_this_tape_stop_44 : Int32) (z_a1_rungs_45 : Int32) (z_a1_people_46 : Int32) (z_a1_startBroken_47 : Int32) (z_a1_room_48 : Nat → Int32) (z_a1_strength_49 : Nat → Int32) (z_a1_weight_50 : Nat → Int32) (z_a1_told_51 : Nat → Int32) (z_a1_startRung_52 : Nat → Int32) (z_a1_startWant_53 : Nat → Int32) (v3_54 : Int32) (t0_55 : Int32) (t1_56 : Int32) : Option (Int32 × Int32 × Int32 × Int32 × Int32 × Int32 × Int32 × Int32 × Int32 × (Nat → Int32) × (Nat → Int32) × (Nat → Int32) × (Nat → Int32) × (Nat → Int32) × (Nat → Int32)) :=
if t0_55 = t1_56 then (if v3_54 = (3 : Int32) then (if z_a1_people_46 < (4 : Int32) then (f2_readClause_J82 z_this_tape_bytes z_this_tape_length z_this_tape_kind_40 z_this_tape_sign_41 z_this_tape_fault_42 z_this_tape_start_43 z_this_tape_stop_44 z_a1_rungs_45 z_a1_people_46 z_a1_startBroken_47 z_a1_room_48 z_a1_strength_49 z_a1_weight_50 z_a1_told_51 z_a1_startRung_52 z_a1_startWant_53 v3_54) else (bnd2 (f9_refuse z_this_tape_fault_42 z_this_tape_start_43 (4 : Int32)) (fun r_75 z_this_tape_fault_76 =>
if r_75 = 0 ∨ r_75 = 1 then some (r_75, z_this_tape_kind_40, z_this_tape_sign_41, z_this_tape_fault_76, z_this_tape_start_43, z_this_tape_stop_44, z_a1_rungs_45, z_a1_people_46, z_a1_startBroken_47, z_a1_room_48, z_a1_strength_49, z_a1_weight_50, z_a1_told_51, z_a1_startRung_52, z_a1_startWant_53) else none))) else (f2_readClause_J82 z_this_tape_bytes z_this_tape_length z_this_tape_kind_40 z_this_tape_sign_41 z_this_tape_fault_42 z_this_tape_start_43 z_this_tape_stop_44 z_a1_rungs_45 z_a1_people_46 z_a1_startBroken_47 z_a1_room_48 z_a1_strength_49 z_a1_weight_50 z_a1_told_51 z_a1_startRung_52 z_a1_startWant_53 v3_54)) else (f2_readClause_J51 z_this_tape_kind_40 z_this_tape_sign_41 z_this_tape_fault_42 z_this_tape_start_43 z_this_tape_stop_44 z_a1_rungs_45 z_a1_people_46 z_a1_startBroken_47 z_a1_room_48 z_a1_strength_49 z_a1_weight_50 z_a1_told_51 z_a1_startRung_52 z_a1_startWant_53)

def f2_readClause_J39 (z_this_tape_bytes : Nat → Int32) (z_this_tape_length : Int32) (z_this_tape_kind_20 : Int32) (z_this_tape_sign_21 : Int32) (z_this_tape_fault_22 : Int32) (z_this_tape_start_23 : Int32) (z_this_tape_stop_24 : Int32) (z_a1_rungs_25 : Int32) (z_a1_people_26 : Int32) (z_a1_startBroken_27 : Int32) (z_a1_room_28 : Nat → Int32) (z_a1_strength_29 : Nat → Int32) (z_a1_weight_30 : Nat → Int32) (z_a1_told_31 : Nat → Int32) (z_a1_startRung_32 : Nat → Int32) (z_a1_startWant_33 : Nat → Int32) (v3_34 : Int32) (t0_35 : Int32) : Option (Int32 × Int32 × Int32 × Int32 × Int32 × Int32 × Int32 × Int32 × Int32 × (Nat → Int32) × (Nat → Int32) × (Nat → Int32) × (Nat → Int32) × (Nat → Int32) × (Nat → Int32)) :=
if v3_34 = 0 then (f2_readClause_J48 z_this_tape_bytes z_this_tape_length z_this_tape_kind_20 z_this_tape_sign_21 z_this_tape_fault_22 z_this_tape_start_23 z_this_tape_stop_24 z_a1_rungs_25 z_a1_people_26 z_a1_startBroken_27 z_a1_room_28 z_a1_strength_29 z_a1_weight_30 z_a1_told_31 z_a1_startRung_32 z_a1_startWant_33 v3_34 t0_35 (1 : Int32)) else (f2_readClause_J48 z_this_tape_bytes z_this_tape_length z_this_tape_kind_20 z_this_tape_sign_21 z_this_tape_fault_22 z_this_tape_start_23 z_this_tape_stop_24 z_a1_rungs_25 z_a1_people_26 z_a1_startBroken_27 z_a1_room_28 z_a1_strength_29 z_a1_weight_30 z_a1_told_31 z_a1_startRung_32 z_a1_startWant_33 v3_34 t0_35 (0 : Int32))

def f2_readClause (z_this_tape_bytes : Nat → Int32) (z_this_tape_length : Int32) (z_this_tape_kind : Int32) (z_this_tape_sign : Int32) (z_this_tape_fault : Int32) (z_this_tape_start : Int32) (z_this_tape_stop : Int32) (z_a1_rungs : Int32) (z_a1_people : Int32) (z_a1_startBroken : Int32) (z_a1_room : Nat → Int32) (z_a1_strength : Nat → Int32) (z_a1_weight : Nat → Int32) (z_a1_told : Nat → Int32) (z_a1_startRung : Nat → Int32) (z_a1_startWant : Nat → Int32) (a2 : Int32) : Option (Int32 × Int32 × Int32 × Int32 × Int32 × Int32 × Int32 × Int32 × Int32 × (Nat → Int32) × (Nat → Int32) × (Nat → Int32) × (Nat → Int32) × (Nat → Int32) × (Nat → Int32)) :=
bnd1 (f9_wordIn z_this_tape_bytes z_this_tape_kind z_this_tape_start z_this_tape_stop 0) (fun r_1 =>
if r_1 = (-1 : Int32) then (bnd2 (f9_refuse z_this_tape_fault z_this_tape_start (0 : Int32)) (fun r_36 z_this_tape_fault_37 =>
if r_36 = 0 ∨ r_36 = 1 then some (r_36, z_this_tape_kind, z_this_tape_sign, z_this_tape_fault_37, z_this_tape_start, z_this_tape_stop, z_a1_rungs, z_a1_people, z_a1_startBroken, z_a1_room, z_a1_strength, z_a1_weight, z_a1_told, z_a1_startRung, z_a1_startWant) else none)) else (if (40 : Int32) ≤ a2 then (f2_readClause_J51 z_this_tape_kind z_this_tape_sign z_this_tape_fault z_this_tape_start z_this_tape_stop z_a1_rungs z_a1_people z_a1_startBroken z_a1_room z_a1_strength z_a1_weight z_a1_told z_a1_startRung z_a1_startWant) else (if a2 = 0 then (f2_readClause_J39 z_this_tape_bytes z_this_tape_length z_this_tape_kind z_this_tape_sign z_this_tape_fault z_this_tape_start z_this_tape_stop z_a1_rungs z_a1_people z_a1_startBroken z_a1_room z_a1_strength z_a1_weight z_a1_told z_a1_startRung z_a1_startWant r_1 (1 : Int32)) else (f2_readClause_J39 z_this_tape_bytes z_this_tape_length z_this_tape_kind z_this_tape_sign z_this_tape_fault z_this_tape_start z_this_tape_stop z_a1_rungs z_a1_people z_a1_startBroken z_a1_room z_a1_strength z_a1_weight z_a1_told z_a1_startRung z_a1_startWant r_1 (0 : Int32)))))

abbrev rm_f2_readClause : Room := { frames := 6, cells := 0, slots := 0, locals := 128 }
theorem hd_f2_readClause : yX2_readClause.cls = RX2 ∧ yX2_readClause.cls ≠ "java/lang/invoke/MethodHandle" ∧ yX2_readClause.cls ≠ "java/lang/invoke/VarHandle" ∧ (parseMethodDescriptor yX2_readClause.desc).map (fun d => d.parameters.length) = some 2 := by decide +kernel
set_option maxHeartbeats 4000000 in
set_option maxRecDepth 100000 in
theorem c2_readClause {l : Launch} {D : va_G} {adK : Nat → Nat} {adV : Nat → Nat} {ad_this : Nat → Nat} {cy_this : Nat → ClassId} {ad_this_tape : Nat → Nat} {cy_this_tape : Nat → ClassId} {z_this_tape_bytes : Nat → Int32} {z_this_tape_length : Int32} {z_this_tape_kind : Int32} {z_this_tape_sign : Int32} {z_this_tape_fault : Int32} {z_this_tape_start : Int32} {z_this_tape_stop : Int32} {ad_a1 : Nat → Nat} {cy_a1 : Nat → ClassId} {z_a1_rungs : Int32} {z_a1_people : Int32} {z_a1_startBroken : Int32} {z_a1_room : Nat → Int32} {z_a1_strength : Nat → Int32} {z_a1_weight : Nat → Int32} {z_a1_told : Nat → Int32} {z_a1_startRung : Nat → Int32} {z_a1_startWant : Nat → Int32} {a2 : Int32} {o_ret : Int32} {o_this_tape_kind : Int32} {o_this_tape_sign : Int32} {o_this_tape_fault : Int32} {o_this_tape_start : Int32} {o_this_tape_stop : Int32} {o_a1_rungs : Int32} {o_a1_people : Int32} {o_a1_startBroken : Int32} {o_a1_room : Nat → Int32} {o_a1_strength : Nat → Int32} {o_a1_weight : Nat → Int32} {o_a1_told : Nat → Int32} {o_a1_startRung : Nat → Int32} {o_a1_startWant : Nat → Int32} (h : f2_readClause z_this_tape_bytes z_this_tape_length z_this_tape_kind z_this_tape_sign z_this_tape_fault z_this_tape_start z_this_tape_stop z_a1_rungs z_a1_people z_a1_startBroken z_a1_room z_a1_strength z_a1_weight z_a1_told z_a1_startRung z_a1_startWant a2 = some (o_ret, o_this_tape_kind, o_this_tape_sign, o_this_tape_fault, o_this_tape_start, o_this_tape_stop, o_a1_rungs, o_a1_people, o_a1_startBroken, o_a1_room, o_a1_strength, o_a1_weight, o_a1_told, o_a1_startRung, o_a1_startWant)) : MetIE l yX2_readClause cX2_readClause 4 (some .boolean) rm_f2_readClause D ([(cy_this_tape 1, .int), (cy_a1 1, .int), (cy_a1 2, .int), (cy_a1 3, .int), (cy_a1 4, .int), (cy_a1 5, .int), (cy_a1 6, .int)]) (cLR ad_this cy_this (ad_this_tape 0) ++ cTp ad_this_tape cy_this_tape z_this_tape_bytes z_this_tape_length z_this_tape_kind z_this_tape_sign z_this_tape_fault z_this_tape_start z_this_tape_stop ++ cLd ad_a1 cy_a1 z_a1_rungs z_a1_people z_a1_startBroken z_a1_room z_a1_strength z_a1_weight z_a1_told z_a1_startRung z_a1_startWant) (cLR ad_this cy_this (ad_this_tape 0) ++ cTp ad_this_tape cy_this_tape z_this_tape_bytes z_this_tape_length o_this_tape_kind o_this_tape_sign o_this_tape_fault o_this_tape_start o_this_tape_stop ++ cLd ad_a1 cy_a1 o_a1_rungs o_a1_people o_a1_startBroken o_a1_room o_a1_strength o_a1_weight o_a1_told o_a1_startRung o_a1_startWant) [.ref (ad_this 0), .ref (ad_a1 0), .int a2] adK adV o_ret := by
  refine metIE_of (own := RX2) rfl (by decide) (Nat.le_of_ble_eq_true rfl) ?_
  intro p e s m args below meth c A Q ls S hK hA hP hD hS hl hE hret
  obtain ⟨hx, hb, hml, hown, hts⟩ := id S
  replace hl : lv_has ls 4 [(0, .ref (ad_this 0)), (1, .ref (ad_a1 0)), (2, .int a2)] := hl
  generalize hH : s.heap = H at hP ⊢
  replace hS : va_S A s.heap H [] := by rw [← hH]; exact hS
  generalize hlo : ([] : List Loc) = locs at hS ⊢
  unfold f2_readClause at h
  have J82 : ∀ (z_this_tape_kind_59 : Int32) (z_this_tape_sign_60 : Int32) (z_this_tape_fault_61 : Int32) (z_this_tape_start_62 : Int32) (z_this_tape_stop_63 : Int32) (z_a1_rungs_64 : Int32) (z_a1_people_65 : Int32) (z_a1_startBroken_66 : Int32) (z_a1_room_67 : Nat → Int32) (z_a1_strength_68 : Nat → Int32) (z_a1_weight_69 : Nat → Int32) (z_a1_told_70 : Nat → Int32) (z_a1_startRung_71 : Nat → Int32) (z_a1_startWant_72 : Nat → Int32) (v3_73 : Int32) (H : Heap) (locs : List Loc) (ls : Array Slot), f2_readClause_J82 z_this_tape_bytes z_this_tape_length z_this_tape_kind_59 z_this_tape_sign_60 z_this_tape_fault_61 z_this_tape_start_62 z_this_tape_stop_63 z_a1_rungs_64 z_a1_people_65 z_a1_startBroken_66 z_a1_room_67 z_a1_strength_68 z_a1_weight_69 z_a1_told_70 z_a1_startRung_71 z_a1_startWant_72 v3_73 = some (o_ret, o_this_tape_kind, o_this_tape_sign, o_this_tape_fault, o_this_tape_start, o_this_tape_stop, o_a1_rungs, o_a1_people, o_a1_startBroken, o_a1_room, o_a1_strength, o_a1_weight, o_a1_told, o_a1_startRung, o_a1_startWant) → va_P D vwCl (cLR ad_this cy_this (ad_this_tape 0) ++ cTp ad_this_tape cy_this_tape z_this_tape_bytes z_this_tape_length z_this_tape_kind_59 z_this_tape_sign_60 z_this_tape_fault_61 z_this_tape_start_62 z_this_tape_stop_63 ++ cLd ad_a1 cy_a1 z_a1_rungs_64 z_a1_people_65 z_a1_startBroken_66 z_a1_room_67 z_a1_strength_68 z_a1_weight_69 z_a1_told_70 z_a1_startRung_71 z_a1_startWant_72) H → va_D A (cLR ad_this cy_this (ad_this_tape 0) ++ cTp ad_this_tape cy_this_tape z_this_tape_bytes z_this_tape_length z_this_tape_kind_59 z_this_tape_sign_60 z_this_tape_fault_61 z_this_tape_start_62 z_this_tape_stop_63 ++ cLd ad_a1 cy_a1 z_a1_rungs_64 z_a1_people_65 z_a1_startBroken_66 z_a1_room_67 z_a1_strength_68 z_a1_weight_69 z_a1_told_70 z_a1_startRung_71 z_a1_startWant_72) → va_S A s.heap H locs → lv_has ls 4 [(0, .ref (ad_this 0)), (1, .ref (ad_a1 0)), (3, .int v3_73)] → W p l e rm_f2_readClause s m args below meth c H locs 0 0 Q (F0 m 82 ls []) := by
    intro z_this_tape_kind_59 z_this_tape_sign_60 z_this_tape_fault_61 z_this_tape_start_62 z_this_tape_stop_63 z_a1_rungs_64 z_a1_people_65 z_a1_startBroken_66 z_a1_room_67 z_a1_strength_68 z_a1_weight_69 z_a1_told_70 z_a1_startRung_71 z_a1_startWant_72 v3_73 H locs ls h hP hD hS hl
    unfold f2_readClause_J82 at h
    refine lv_aload_n hx hb dX2_readClause_82 rfl (lv_at hl 0 rfl) ?_
    refine va_get (ci := 2) (v := .ref (ad_this_tape 0)) (C := RX2) (T := TX2) (N := 1) hx hb hts inlX2 hown hK hP 0 rfl rfl 0 (by decide) (hts _ mw_4_6) (fun _ h9 => h9) rfl dX2_readClause_83 ?_
    obtain ⟨z_this_tape_kind_81, z_this_tape_sign_82, z_this_tape_start_83, z_this_tape_stop_84, hc85, h⟩ := bnd4_el h
    refine mfV_v (As := []) (rest := []) (wc := cTp ad_this_tape cy_this_tape z_this_tape_bytes z_this_tape_length z_this_tape_kind_59 z_this_tape_sign_60 z_this_tape_fault_61 z_this_tape_start_62 z_this_tape_stop_63) (wr := cLR ad_this cy_this (ad_this_tape 0) ++ cLd ad_a1 cy_a1 z_a1_rungs_64 z_a1_people_65 z_a1_startBroken_66 z_a1_room_67 z_a1_strength_68 z_a1_weight_69 z_a1_told_70 z_a1_startRung_71 z_a1_startWant_72) (wf := cLR ad_this cy_this (ad_this_tape 0) ++ cTp ad_this_tape cy_this_tape z_this_tape_bytes z_this_tape_length z_this_tape_kind_81 z_this_tape_sign_82 z_this_tape_fault_61 z_this_tape_start_83 z_this_tape_stop_84 ++ cLd ad_a1 cy_a1 z_a1_rungs_64 z_a1_people_65 z_a1_startBroken_66 z_a1_room_67 z_a1_strength_68 z_a1_weight_69 z_a1_told_70 z_a1_startRung_71 z_a1_startWant_72) S hK hP hD hS hA (c9_advance hc85) [0] [1, 2] [0, 3, 4, 5, 6, 7, 8, 9] [0, 8, 9, 1, 2, 3, 4, 5, 6, 7] rfl rfl rfl (by decide) (by decide) (by decide) rfl (by decide) (gdV mw_12_21 mw_10_1 mw_10_2 mw_1_17 mw_10_3) rfl rfl hd_f9_advance ⟨Nat.le_of_ble_eq_true rfl, Nat.le_of_ble_eq_true rfl⟩ (ci := 9) (q0 := 0) rfl rfl rfl hl.1 rfl (Nat.le_of_ble_eq_true rfl) dX2_readClause_86 (fun H locs hP hD hS => ?_)
    refine lv_iload_n hx hb dX2_readClause_89 rfl (lv_at hl 2 rfl) ?_
    by_cases c94 : Int32.toInt v3_73 = 0
    · replace h := ite_t c94 h
      refine lv_tableIn (tgt := 116) hx hb dX2_readClause_90 (by omega) (by omega) (by rw [c94] <;> rfl) rfl ?_
      refine lv_aload_n hx hb dX2_readClause_116 rfl (lv_at hl 0 rfl) ?_
      refine lv_aload_n hx hb dX2_readClause_117 rfl (lv_at hl 1 rfl) ?_
      obtain ⟨r_86, z_this_tape_kind_87, z_this_tape_sign_88, z_this_tape_fault_89, z_this_tape_start_90, z_this_tape_stop_91, z_a1_rungs_92, hc93, h⟩ := bnd7_el h
      refine mcV_i (As := [.ref (ad_a1 0)]) (rest := []) (ws := cLR ad_this cy_this (ad_this_tape 0) ++ cTp ad_this_tape cy_this_tape z_this_tape_bytes z_this_tape_length z_this_tape_kind_81 z_this_tape_sign_82 z_this_tape_fault_61 z_this_tape_start_83 z_this_tape_stop_84 ++ cLd ad_a1 cy_a1 z_a1_rungs_64 z_a1_people_65 z_a1_startBroken_66 z_a1_room_67 z_a1_strength_68 z_a1_weight_69 z_a1_told_70 z_a1_startRung_71 z_a1_startWant_72) (ws' := cLR ad_this cy_this (ad_this_tape 0) ++ cTp ad_this_tape cy_this_tape z_this_tape_bytes z_this_tape_length z_this_tape_kind_87 z_this_tape_sign_88 z_this_tape_fault_89 z_this_tape_start_90 z_this_tape_stop_91 ++ cLd ad_a1 cy_a1 z_a1_rungs_92 z_a1_people_65 z_a1_startBroken_66 z_a1_room_67 z_a1_strength_68 z_a1_weight_69 z_a1_told_70 z_a1_startRung_71 z_a1_startWant_72) S hK hP hD hS hA (c2_readRungs hc93) (gdV mw_12_22 mw_12_23 mw_13_0 mw_1_21 mw_13_1) rfl rfl hd_f2_readRungs ⟨Nat.le_of_ble_eq_true rfl, Nat.le_of_ble_eq_true rfl⟩ (ci := 2) (q0 := 0) rfl rfl rfl hl.1 rfl (Nat.le_of_ble_eq_true rfl) dX2_readClause_118 (fun H locs hP hD hS => ?_)
      obtain ⟨hz, h⟩ := gd_el h
      obtain ⟨e_0, e_1, e_2, e_3, e_4, e_5, e_6, e_7, e_8, e_9, e_10, e_11, e_12, e_13, e_14⟩ := inj15 h
      subst e_0
      subst e_1
      subst e_2
      subst e_3
      subst e_4
      subst e_5
      subst e_6
      subst e_7
      subst e_8
      subst e_9
      subst e_10
      subst e_11
      subst e_12
      subst e_13
      subst e_14
      exact hret _ _ _ _ _ hP hD hS rfl (nzg hz) dX2_readClause_121
    replace h := ite_f c94 h
    by_cases c104 : Int32.toInt v3_73 = 1
    · replace h := ite_t c104 h
      refine lv_tableIn (tgt := 122) hx hb dX2_readClause_90 (by omega) (by omega) (by rw [c104] <;> rfl) rfl ?_
      refine lv_aload_n hx hb dX2_readClause_122 rfl (lv_at hl 0 rfl) ?_
      refine lv_aload_n hx hb dX2_readClause_123 rfl (lv_at hl 1 rfl) ?_
      obtain ⟨r_95, z_this_tape_kind_96, z_this_tape_sign_97, z_this_tape_fault_98, z_this_tape_start_99, z_this_tape_stop_100, z_a1_room_101, z_a1_strength_102, hc103, h⟩ := bnd8_el h
      refine mcV_i (As := [.ref (ad_a1 0)]) (rest := []) (ws := cLR ad_this cy_this (ad_this_tape 0) ++ cTp ad_this_tape cy_this_tape z_this_tape_bytes z_this_tape_length z_this_tape_kind_81 z_this_tape_sign_82 z_this_tape_fault_61 z_this_tape_start_83 z_this_tape_stop_84 ++ cLd ad_a1 cy_a1 z_a1_rungs_64 z_a1_people_65 z_a1_startBroken_66 z_a1_room_67 z_a1_strength_68 z_a1_weight_69 z_a1_told_70 z_a1_startRung_71 z_a1_startWant_72) (ws' := cLR ad_this cy_this (ad_this_tape 0) ++ cTp ad_this_tape cy_this_tape z_this_tape_bytes z_this_tape_length z_this_tape_kind_96 z_this_tape_sign_97 z_this_tape_fault_98 z_this_tape_start_99 z_this_tape_stop_100 ++ cLd ad_a1 cy_a1 z_a1_rungs_64 z_a1_people_65 z_a1_startBroken_66 z_a1_room_101 z_a1_strength_102 z_a1_weight_69 z_a1_told_70 z_a1_startRung_71 z_a1_startWant_72) S hK hP hD hS hA (c2_readRung hc103) (gdV mw_13_11 mw_13_12 mw_13_13 mw_1_21 mw_13_14) rfl rfl hd_f2_readRung ⟨Nat.le_of_ble_eq_true rfl, Nat.le_of_ble_eq_true rfl⟩ (ci := 2) (q0 := 0) rfl rfl rfl hl.1 rfl (Nat.le_of_ble_eq_true rfl) dX2_readClause_124 (fun H locs hP hD hS => ?_)
      obtain ⟨hz, h⟩ := gd_el h
      obtain ⟨e_0, e_1, e_2, e_3, e_4, e_5, e_6, e_7, e_8, e_9, e_10, e_11, e_12, e_13, e_14⟩ := inj15 h
      subst e_0
      subst e_1
      subst e_2
      subst e_3
      subst e_4
      subst e_5
      subst e_6
      subst e_7
      subst e_8
      subst e_9
      subst e_10
      subst e_11
      subst e_12
      subst e_13
      subst e_14
      exact hret _ _ _ _ _ hP hD hS rfl (nzg hz) dX2_readClause_127
    replace h := ite_f c104 h
    by_cases c113 : Int32.toInt v3_73 = 2
    · replace h := ite_t c113 h
      refine lv_tableIn (tgt := 128) hx hb dX2_readClause_90 (by omega) (by omega) (by rw [c113] <;> rfl) rfl ?_
      refine lv_aload_n hx hb dX2_readClause_128 rfl (lv_at hl 0 rfl) ?_
      refine lv_aload_n hx hb dX2_readClause_129 rfl (lv_at hl 1 rfl) ?_
      obtain ⟨r_105, z_this_tape_kind_106, z_this_tape_sign_107, z_this_tape_fault_108, z_this_tape_start_109, z_this_tape_stop_110, z_a1_startBroken_111, hc112, h⟩ := bnd7_el h
      refine mcV_i (As := [.ref (ad_a1 0)]) (rest := []) (ws := cLR ad_this cy_this (ad_this_tape 0) ++ cTp ad_this_tape cy_this_tape z_this_tape_bytes z_this_tape_length z_this_tape_kind_81 z_this_tape_sign_82 z_this_tape_fault_61 z_this_tape_start_83 z_this_tape_stop_84 ++ cLd ad_a1 cy_a1 z_a1_rungs_64 z_a1_people_65 z_a1_startBroken_66 z_a1_room_67 z_a1_strength_68 z_a1_weight_69 z_a1_told_70 z_a1_startRung_71 z_a1_startWant_72) (ws' := cLR ad_this cy_this (ad_this_tape 0) ++ cTp ad_this_tape cy_this_tape z_this_tape_bytes z_this_tape_length z_this_tape_kind_106 z_this_tape_sign_107 z_this_tape_fault_108 z_this_tape_start_109 z_this_tape_stop_110 ++ cLd ad_a1 cy_a1 z_a1_rungs_64 z_a1_people_65 z_a1_startBroken_111 z_a1_room_67 z_a1_strength_68 z_a1_weight_69 z_a1_told_70 z_a1_startRung_71 z_a1_startWant_72) S hK hP hD hS hA (c2_readBroken hc112) (gdV mw_14_2 mw_14_3 mw_14_4 mw_1_21 mw_14_5) rfl rfl hd_f2_readBroken ⟨Nat.le_of_ble_eq_true rfl, Nat.le_of_ble_eq_true rfl⟩ (ci := 2) (q0 := 0) rfl rfl rfl hl.1 rfl (Nat.le_of_ble_eq_true rfl) dX2_readClause_130 (fun H locs hP hD hS => ?_)
      obtain ⟨hz, h⟩ := gd_el h
      obtain ⟨e_0, e_1, e_2, e_3, e_4, e_5, e_6, e_7, e_8, e_9, e_10, e_11, e_12, e_13, e_14⟩ := inj15 h
      subst e_0
      subst e_1
      subst e_2
      subst e_3
      subst e_4
      subst e_5
      subst e_6
      subst e_7
      subst e_8
      subst e_9
      subst e_10
      subst e_11
      subst e_12
      subst e_13
      subst e_14
      exact hret _ _ _ _ _ hP hD hS rfl (nzg hz) dX2_readClause_133
    replace h := ite_f c113 h
    refine lv_tableOut (tgt := 134) hx hb dX2_readClause_90 (by omega) rfl ?_
    refine lv_aload_n hx hb dX2_readClause_134 rfl (lv_at hl 0 rfl) ?_
    refine lv_aload_n hx hb dX2_readClause_135 rfl (lv_at hl 1 rfl) ?_
    obtain ⟨r_114, z_this_tape_kind_115, z_this_tape_sign_116, z_this_tape_fault_117, z_this_tape_start_118, z_this_tape_stop_119, z_a1_people_120, z_a1_weight_121, z_a1_told_122, z_a1_startRung_123, z_a1_startWant_124, hc125, h⟩ := bnd11_el h
    refine mcV_i (As := [.ref (ad_a1 0)]) (rest := []) (ws := cLR ad_this cy_this (ad_this_tape 0) ++ cTp ad_this_tape cy_this_tape z_this_tape_bytes z_this_tape_length z_this_tape_kind_81 z_this_tape_sign_82 z_this_tape_fault_61 z_this_tape_start_83 z_this_tape_stop_84 ++ cLd ad_a1 cy_a1 z_a1_rungs_64 z_a1_people_65 z_a1_startBroken_66 z_a1_room_67 z_a1_strength_68 z_a1_weight_69 z_a1_told_70 z_a1_startRung_71 z_a1_startWant_72) (ws' := cLR ad_this cy_this (ad_this_tape 0) ++ cTp ad_this_tape cy_this_tape z_this_tape_bytes z_this_tape_length z_this_tape_kind_115 z_this_tape_sign_116 z_this_tape_fault_117 z_this_tape_start_118 z_this_tape_stop_119 ++ cLd ad_a1 cy_a1 z_a1_rungs_64 z_a1_people_120 z_a1_startBroken_66 z_a1_room_67 z_a1_strength_68 z_a1_weight_121 z_a1_told_122 z_a1_startRung_123 z_a1_startWant_124) S hK hP hD hS hA (c2_readPerson hc125) (gdV mw_14_7 mw_14_8 mw_14_9 mw_1_21 mw_14_10) rfl rfl hd_f2_readPerson ⟨Nat.le_of_ble_eq_true rfl, Nat.le_of_ble_eq_true rfl⟩ (ci := 2) (q0 := 0) rfl rfl rfl hl.1 rfl (Nat.le_of_ble_eq_true rfl) dX2_readClause_136 (fun H locs hP hD hS => ?_)
    obtain ⟨hz, h⟩ := gd_el h
    obtain ⟨e_0, e_1, e_2, e_3, e_4, e_5, e_6, e_7, e_8, e_9, e_10, e_11, e_12, e_13, e_14⟩ := inj15 h
    subst e_0
    subst e_1
    subst e_2
    subst e_3
    subst e_4
    subst e_5
    subst e_6
    subst e_7
    subst e_8
    subst e_9
    subst e_10
    subst e_11
    subst e_12
    subst e_13
    subst e_14
    exact hret _ _ _ _ _ hP hD hS rfl (nzg hz) dX2_readClause_139
  have J51 : ∀ (z_this_tape_kind_5 : Int32) (z_this_tape_sign_6 : Int32) (z_this_tape_fault_7 : Int32) (z_this_tape_start_8 : Int32) (z_this_tape_stop_9 : Int32) (z_a1_rungs_10 : Int32) (z_a1_people_11 : Int32) (z_a1_startBroken_12 : Int32) (z_a1_room_13 : Nat → Int32) (z_a1_strength_14 : Nat → Int32) (z_a1_weight_15 : Nat → Int32) (z_a1_told_16 : Nat → Int32) (z_a1_startRung_17 : Nat → Int32) (z_a1_startWant_18 : Nat → Int32) (H : Heap) (locs : List Loc) (ls : Array Slot), f2_readClause_J51 z_this_tape_kind_5 z_this_tape_sign_6 z_this_tape_fault_7 z_this_tape_start_8 z_this_tape_stop_9 z_a1_rungs_10 z_a1_people_11 z_a1_startBroken_12 z_a1_room_13 z_a1_strength_14 z_a1_weight_15 z_a1_told_16 z_a1_startRung_17 z_a1_startWant_18 = some (o_ret, o_this_tape_kind, o_this_tape_sign, o_this_tape_fault, o_this_tape_start, o_this_tape_stop, o_a1_rungs, o_a1_people, o_a1_startBroken, o_a1_room, o_a1_strength, o_a1_weight, o_a1_told, o_a1_startRung, o_a1_startWant) → va_P D vwCl (cLR ad_this cy_this (ad_this_tape 0) ++ cTp ad_this_tape cy_this_tape z_this_tape_bytes z_this_tape_length z_this_tape_kind_5 z_this_tape_sign_6 z_this_tape_fault_7 z_this_tape_start_8 z_this_tape_stop_9 ++ cLd ad_a1 cy_a1 z_a1_rungs_10 z_a1_people_11 z_a1_startBroken_12 z_a1_room_13 z_a1_strength_14 z_a1_weight_15 z_a1_told_16 z_a1_startRung_17 z_a1_startWant_18) H → va_D A (cLR ad_this cy_this (ad_this_tape 0) ++ cTp ad_this_tape cy_this_tape z_this_tape_bytes z_this_tape_length z_this_tape_kind_5 z_this_tape_sign_6 z_this_tape_fault_7 z_this_tape_start_8 z_this_tape_stop_9 ++ cLd ad_a1 cy_a1 z_a1_rungs_10 z_a1_people_11 z_a1_startBroken_12 z_a1_room_13 z_a1_strength_14 z_a1_weight_15 z_a1_told_16 z_a1_startRung_17 z_a1_startWant_18) → va_S A s.heap H locs → lv_has ls 4 [(0, .ref (ad_this 0))] → W p l e rm_f2_readClause s m args below meth c H locs 0 0 Q (F0 m 51 ls []) := by
    intro z_this_tape_kind_5 z_this_tape_sign_6 z_this_tape_fault_7 z_this_tape_start_8 z_this_tape_stop_9 z_a1_rungs_10 z_a1_people_11 z_a1_startBroken_12 z_a1_room_13 z_a1_strength_14 z_a1_weight_15 z_a1_told_16 z_a1_startRung_17 z_a1_startWant_18 H locs ls h hP hD hS hl
    unfold f2_readClause_J51 at h
    refine lv_aload_n hx hb dX2_readClause_51 rfl (lv_at hl 0 rfl) ?_
    refine va_get (ci := 2) (v := .ref (ad_this_tape 0)) (C := RX2) (T := TX2) (N := 1) hx hb hts inlX2 hown hK hP 0 rfl rfl 0 (by decide) (hts _ mw_4_6) (fun _ h9 => h9) rfl dX2_readClause_52 ?_
    refine lv_iconst (v := (4 : Int32)) hx hb dX2_readClause_55 (by decide) ?_
    obtain ⟨r_78, z_this_tape_fault_79, hc80, h⟩ := bnd2_el h
    refine mfV_i (As := [.int (4 : Int32)]) (rest := []) (wc := cTp ad_this_tape cy_this_tape z_this_tape_bytes z_this_tape_length z_this_tape_kind_5 z_this_tape_sign_6 z_this_tape_fault_7 z_this_tape_start_8 z_this_tape_stop_9) (wr := cLR ad_this cy_this (ad_this_tape 0) ++ cLd ad_a1 cy_a1 z_a1_rungs_10 z_a1_people_11 z_a1_startBroken_12 z_a1_room_13 z_a1_strength_14 z_a1_weight_15 z_a1_told_16 z_a1_startRung_17 z_a1_startWant_18) (wf := cLR ad_this cy_this (ad_this_tape 0) ++ cTp ad_this_tape cy_this_tape z_this_tape_bytes z_this_tape_length z_this_tape_kind_5 z_this_tape_sign_6 z_this_tape_fault_79 z_this_tape_start_8 z_this_tape_stop_9 ++ cLd ad_a1 cy_a1 z_a1_rungs_10 z_a1_people_11 z_a1_startBroken_12 z_a1_room_13 z_a1_strength_14 z_a1_weight_15 z_a1_told_16 z_a1_startRung_17 z_a1_startWant_18) S hK hP hD hS hA (c9_refuse hc80) [0] [1, 2] [0, 3, 4, 5, 6, 7, 8, 9] [0, 8, 9, 1, 2, 3, 4, 5, 6, 7] rfl rfl rfl (by decide) (by decide) (by decide) rfl (by decide) (gdV mw_12_17 mw_12_18 mw_12_19 mw_1_17 mw_12_20) rfl rfl hd_f9_refuse ⟨Nat.le_of_ble_eq_true rfl, Nat.le_of_ble_eq_true rfl⟩ (ci := 9) (q0 := 0) rfl rfl rfl hl.1 rfl (Nat.le_of_ble_eq_true rfl) dX2_readClause_56 (fun H locs hP hD hS => ?_)
    obtain ⟨hz, h⟩ := gd_el h
    obtain ⟨e_0, e_1, e_2, e_3, e_4, e_5, e_6, e_7, e_8, e_9, e_10, e_11, e_12, e_13, e_14⟩ := inj15 h
    subst e_0
    subst e_1
    subst e_2
    subst e_3
    subst e_4
    subst e_5
    subst e_6
    subst e_7
    subst e_8
    subst e_9
    subst e_10
    subst e_11
    subst e_12
    subst e_13
    subst e_14
    exact hret _ _ _ _ _ hP hD hS rfl (nzg hz) dX2_readClause_59
  have J48 : ∀ (z_this_tape_kind_40 : Int32) (z_this_tape_sign_41 : Int32) (z_this_tape_fault_42 : Int32) (z_this_tape_start_43 : Int32) (z_this_tape_stop_44 : Int32) (z_a1_rungs_45 : Int32) (z_a1_people_46 : Int32) (z_a1_startBroken_47 : Int32) (z_a1_room_48 : Nat → Int32) (z_a1_strength_49 : Nat → Int32) (z_a1_weight_50 : Nat → Int32) (z_a1_told_51 : Nat → Int32) (z_a1_startRung_52 : Nat → Int32) (z_a1_startWant_53 : Nat → Int32) (v3_54 : Int32) (t0_55 : Int32) (t1_56 : Int32) (H : Heap) (locs : List Loc) (ls : Array Slot), f2_readClause_J48 z_this_tape_bytes z_this_tape_length z_this_tape_kind_40 z_this_tape_sign_41 z_this_tape_fault_42 z_this_tape_start_43 z_this_tape_stop_44 z_a1_rungs_45 z_a1_people_46 z_a1_startBroken_47 z_a1_room_48 z_a1_strength_49 z_a1_weight_50 z_a1_told_51 z_a1_startRung_52 z_a1_startWant_53 v3_54 t0_55 t1_56 = some (o_ret, o_this_tape_kind, o_this_tape_sign, o_this_tape_fault, o_this_tape_start, o_this_tape_stop, o_a1_rungs, o_a1_people, o_a1_startBroken, o_a1_room, o_a1_strength, o_a1_weight, o_a1_told, o_a1_startRung, o_a1_startWant) → va_P D vwCl (cLR ad_this cy_this (ad_this_tape 0) ++ cTp ad_this_tape cy_this_tape z_this_tape_bytes z_this_tape_length z_this_tape_kind_40 z_this_tape_sign_41 z_this_tape_fault_42 z_this_tape_start_43 z_this_tape_stop_44 ++ cLd ad_a1 cy_a1 z_a1_rungs_45 z_a1_people_46 z_a1_startBroken_47 z_a1_room_48 z_a1_strength_49 z_a1_weight_50 z_a1_told_51 z_a1_startRung_52 z_a1_startWant_53) H → va_D A (cLR ad_this cy_this (ad_this_tape 0) ++ cTp ad_this_tape cy_this_tape z_this_tape_bytes z_this_tape_length z_this_tape_kind_40 z_this_tape_sign_41 z_this_tape_fault_42 z_this_tape_start_43 z_this_tape_stop_44 ++ cLd ad_a1 cy_a1 z_a1_rungs_45 z_a1_people_46 z_a1_startBroken_47 z_a1_room_48 z_a1_strength_49 z_a1_weight_50 z_a1_told_51 z_a1_startRung_52 z_a1_startWant_53) → va_S A s.heap H locs → lv_has ls 4 [(0, .ref (ad_this 0)), (1, .ref (ad_a1 0)), (3, .int v3_54)] → W p l e rm_f2_readClause s m args below meth c H locs 0 0 Q (F0 m 48 ls [.int t1_56, .int t0_55]) := by
    intro z_this_tape_kind_40 z_this_tape_sign_41 z_this_tape_fault_42 z_this_tape_start_43 z_this_tape_stop_44 z_a1_rungs_45 z_a1_people_46 z_a1_startBroken_47 z_a1_room_48 z_a1_strength_49 z_a1_weight_50 z_a1_told_51 z_a1_startRung_52 z_a1_startWant_53 v3_54 t0_55 t1_56 H locs ls h hP hD hS hl
    unfold f2_readClause_J48 at h
    refine lv_icmp_eq (tgt := 60) hx hb dX2_readClause_48 rfl (fun c57 => ?_) (fun c57 => ?_)
    · replace h := ite_t c57 h
      refine lv_iload_n hx hb dX2_readClause_60 rfl (lv_at hl 2 rfl) ?_
      refine lv_iconst (v := (3 : Int32)) hx hb dX2_readClause_61 (by decide) ?_
      refine lv_icmp_ne (tgt := 82) hx hb dX2_readClause_62 rfl (fun c58 => ?_) (fun c58 => ?_)
      · replace h := ite_f c58 h
        exact J82 z_this_tape_kind_40 z_this_tape_sign_41 z_this_tape_fault_42 z_this_tape_start_43 z_this_tape_stop_44 z_a1_rungs_45 z_a1_people_46 z_a1_startBroken_47 z_a1_room_48 z_a1_strength_49 z_a1_weight_50 z_a1_told_51 z_a1_startRung_52 z_a1_startWant_53 v3_54 H locs ls h hP hD hS (lv_sub hl [0, 1, 2] rfl)
      · replace h := ite_t c58 h
        refine lv_aload_n hx hb dX2_readClause_65 rfl (lv_at hl 1 rfl) ?_
        refine va_get (ci := 1) (v := .int z_a1_people_46) (C := RX1) (T := TX1) (N := 9) hx hb hts inlX1 hown hK hP 3 rfl rfl 1 (by decide) (hts _ mw_10_11) (fun _ h9 => h9) rfl dX2_readClause_66 ?_
        refine lv_iconst (v := (4 : Int32)) hx hb dX2_readClause_69 (by decide) ?_
        refine lv_icmp_lt (tgt := 82) hx hb dX2_readClause_70 rfl (fun c74 => ?_) (fun c74 => ?_)
        · replace h := ite_t c74 h
          exact J82 z_this_tape_kind_40 z_this_tape_sign_41 z_this_tape_fault_42 z_this_tape_start_43 z_this_tape_stop_44 z_a1_rungs_45 z_a1_people_46 z_a1_startBroken_47 z_a1_room_48 z_a1_strength_49 z_a1_weight_50 z_a1_told_51 z_a1_startRung_52 z_a1_startWant_53 v3_54 H locs ls h hP hD hS (lv_sub hl [0, 1, 2] rfl)
        · replace h := ite_f c74 h
          refine lv_aload_n hx hb dX2_readClause_73 rfl (lv_at hl 0 rfl) ?_
          refine va_get (ci := 2) (v := .ref (ad_this_tape 0)) (C := RX2) (T := TX2) (N := 1) hx hb hts inlX2 hown hK hP 0 rfl rfl 0 (by decide) (hts _ mw_4_6) (fun _ h9 => h9) rfl dX2_readClause_74 ?_
          refine lv_iconst (v := (4 : Int32)) hx hb dX2_readClause_77 (by decide) ?_
          obtain ⟨r_75, z_this_tape_fault_76, hc77, h⟩ := bnd2_el h
          refine mfV_i (As := [.int (4 : Int32)]) (rest := []) (wc := cTp ad_this_tape cy_this_tape z_this_tape_bytes z_this_tape_length z_this_tape_kind_40 z_this_tape_sign_41 z_this_tape_fault_42 z_this_tape_start_43 z_this_tape_stop_44) (wr := cLR ad_this cy_this (ad_this_tape 0) ++ cLd ad_a1 cy_a1 z_a1_rungs_45 z_a1_people_46 z_a1_startBroken_47 z_a1_room_48 z_a1_strength_49 z_a1_weight_50 z_a1_told_51 z_a1_startRung_52 z_a1_startWant_53) (wf := cLR ad_this cy_this (ad_this_tape 0) ++ cTp ad_this_tape cy_this_tape z_this_tape_bytes z_this_tape_length z_this_tape_kind_40 z_this_tape_sign_41 z_this_tape_fault_76 z_this_tape_start_43 z_this_tape_stop_44 ++ cLd ad_a1 cy_a1 z_a1_rungs_45 z_a1_people_46 z_a1_startBroken_47 z_a1_room_48 z_a1_strength_49 z_a1_weight_50 z_a1_told_51 z_a1_startRung_52 z_a1_startWant_53) S hK hP hD hS hA (c9_refuse hc77) [0] [1, 2] [0, 3, 4, 5, 6, 7, 8, 9] [0, 8, 9, 1, 2, 3, 4, 5, 6, 7] rfl rfl rfl (by decide) (by decide) (by decide) rfl (by decide) (gdV mw_12_17 mw_12_18 mw_12_19 mw_1_17 mw_12_20) rfl rfl hd_f9_refuse ⟨Nat.le_of_ble_eq_true rfl, Nat.le_of_ble_eq_true rfl⟩ (ci := 9) (q0 := 0) rfl rfl rfl hl.1 rfl (Nat.le_of_ble_eq_true rfl) dX2_readClause_78 (fun H locs hP hD hS => ?_)
          obtain ⟨hz, h⟩ := gd_el h
          obtain ⟨e_0, e_1, e_2, e_3, e_4, e_5, e_6, e_7, e_8, e_9, e_10, e_11, e_12, e_13, e_14⟩ := inj15 h
          subst e_0
          subst e_1
          subst e_2
          subst e_3
          subst e_4
          subst e_5
          subst e_6
          subst e_7
          subst e_8
          subst e_9
          subst e_10
          subst e_11
          subst e_12
          subst e_13
          subst e_14
          exact hret _ _ _ _ _ hP hD hS rfl (nzg hz) dX2_readClause_81
    · replace h := ite_f c57 h
      exact J51 z_this_tape_kind_40 z_this_tape_sign_41 z_this_tape_fault_42 z_this_tape_start_43 z_this_tape_stop_44 z_a1_rungs_45 z_a1_people_46 z_a1_startBroken_47 z_a1_room_48 z_a1_strength_49 z_a1_weight_50 z_a1_told_51 z_a1_startRung_52 z_a1_startWant_53 H locs ls h hP hD hS (lv_sub hl [0] rfl)
  have J39 : ∀ (z_this_tape_kind_20 : Int32) (z_this_tape_sign_21 : Int32) (z_this_tape_fault_22 : Int32) (z_this_tape_start_23 : Int32) (z_this_tape_stop_24 : Int32) (z_a1_rungs_25 : Int32) (z_a1_people_26 : Int32) (z_a1_startBroken_27 : Int32) (z_a1_room_28 : Nat → Int32) (z_a1_strength_29 : Nat → Int32) (z_a1_weight_30 : Nat → Int32) (z_a1_told_31 : Nat → Int32) (z_a1_startRung_32 : Nat → Int32) (z_a1_startWant_33 : Nat → Int32) (v3_34 : Int32) (t0_35 : Int32) (H : Heap) (locs : List Loc) (ls : Array Slot), f2_readClause_J39 z_this_tape_bytes z_this_tape_length z_this_tape_kind_20 z_this_tape_sign_21 z_this_tape_fault_22 z_this_tape_start_23 z_this_tape_stop_24 z_a1_rungs_25 z_a1_people_26 z_a1_startBroken_27 z_a1_room_28 z_a1_strength_29 z_a1_weight_30 z_a1_told_31 z_a1_startRung_32 z_a1_startWant_33 v3_34 t0_35 = some (o_ret, o_this_tape_kind, o_this_tape_sign, o_this_tape_fault, o_this_tape_start, o_this_tape_stop, o_a1_rungs, o_a1_people, o_a1_startBroken, o_a1_room, o_a1_strength, o_a1_weight, o_a1_told, o_a1_startRung, o_a1_startWant) → va_P D vwCl (cLR ad_this cy_this (ad_this_tape 0) ++ cTp ad_this_tape cy_this_tape z_this_tape_bytes z_this_tape_length z_this_tape_kind_20 z_this_tape_sign_21 z_this_tape_fault_22 z_this_tape_start_23 z_this_tape_stop_24 ++ cLd ad_a1 cy_a1 z_a1_rungs_25 z_a1_people_26 z_a1_startBroken_27 z_a1_room_28 z_a1_strength_29 z_a1_weight_30 z_a1_told_31 z_a1_startRung_32 z_a1_startWant_33) H → va_D A (cLR ad_this cy_this (ad_this_tape 0) ++ cTp ad_this_tape cy_this_tape z_this_tape_bytes z_this_tape_length z_this_tape_kind_20 z_this_tape_sign_21 z_this_tape_fault_22 z_this_tape_start_23 z_this_tape_stop_24 ++ cLd ad_a1 cy_a1 z_a1_rungs_25 z_a1_people_26 z_a1_startBroken_27 z_a1_room_28 z_a1_strength_29 z_a1_weight_30 z_a1_told_31 z_a1_startRung_32 z_a1_startWant_33) → va_S A s.heap H locs → lv_has ls 4 [(0, .ref (ad_this 0)), (1, .ref (ad_a1 0)), (3, .int v3_34)] → W p l e rm_f2_readClause s m args below meth c H locs 0 0 Q (F0 m 39 ls [.int t0_35]) := by
    intro z_this_tape_kind_20 z_this_tape_sign_21 z_this_tape_fault_22 z_this_tape_start_23 z_this_tape_stop_24 z_a1_rungs_25 z_a1_people_26 z_a1_startBroken_27 z_a1_room_28 z_a1_strength_29 z_a1_weight_30 z_a1_told_31 z_a1_startRung_32 z_a1_startWant_33 v3_34 t0_35 H locs ls h hP hD hS hl
    unfold f2_readClause_J39 at h
    refine lv_iload_n hx hb dX2_readClause_39 rfl (lv_at hl 2 rfl) ?_
    refine lv_if_ne (tgt := 47) hx hb dX2_readClause_40 rfl (fun c39 => ?_) (fun c39 => ?_)
    · replace h := ite_f c39 h
      refine lv_iconst (v := (0 : Int32)) hx hb dX2_readClause_47 (by decide) ?_
      exact J48 z_this_tape_kind_20 z_this_tape_sign_21 z_this_tape_fault_22 z_this_tape_start_23 z_this_tape_stop_24 z_a1_rungs_25 z_a1_people_26 z_a1_startBroken_27 z_a1_room_28 z_a1_strength_29 z_a1_weight_30 z_a1_told_31 z_a1_startRung_32 z_a1_startWant_33 v3_34 t0_35 (0 : Int32) H locs ls h hP hD hS (lv_sub hl [0, 1, 2] rfl)
    · replace h := ite_t c39 h
      refine lv_iconst (v := (1 : Int32)) hx hb dX2_readClause_43 (by decide) ?_
      refine lv_goto (tgt := 48) hx hb dX2_readClause_44 rfl ?_
      exact J48 z_this_tape_kind_20 z_this_tape_sign_21 z_this_tape_fault_22 z_this_tape_start_23 z_this_tape_stop_24 z_a1_rungs_25 z_a1_people_26 z_a1_startBroken_27 z_a1_room_28 z_a1_strength_29 z_a1_weight_30 z_a1_told_31 z_a1_startRung_32 z_a1_startWant_33 v3_34 t0_35 (1 : Int32) H locs ls h hP hD hS (lv_sub hl [0, 1, 2] rfl)
  refine lv_aload_n hx hb dX2_readClause_0 rfl (lv_at hl 0 rfl) ?_
  refine va_get (ci := 2) (v := .ref (ad_this_tape 0)) (C := RX2) (T := TX2) (N := 1) hx hb hts inlX2 hown hK hP 0 rfl rfl 0 (by decide) (hts _ mw_4_6) (fun _ h9 => h9) rfl dX2_readClause_1 ?_
  refine va_ldcS hx hb hown hE.2.2.2.1 dX2_readClause_4 ?_
  obtain ⟨r_1, hc2, h⟩ := bnd1_el h
  refine mfV_iE (As := [.ref (adK 0)]) (rest := []) (wc := cTp ad_this_tape cy_this_tape z_this_tape_bytes z_this_tape_length z_this_tape_kind z_this_tape_sign z_this_tape_fault z_this_tape_start z_this_tape_stop) (wr := cLR ad_this cy_this (ad_this_tape 0) ++ cLd ad_a1 cy_a1 z_a1_rungs z_a1_people z_a1_startBroken z_a1_room z_a1_strength z_a1_weight z_a1_told z_a1_startRung z_a1_startWant) (wf := cLR ad_this cy_this (ad_this_tape 0) ++ cTp ad_this_tape cy_this_tape z_this_tape_bytes z_this_tape_length z_this_tape_kind z_this_tape_sign z_this_tape_fault z_this_tape_start z_this_tape_stop ++ cLd ad_a1 cy_a1 z_a1_rungs z_a1_people z_a1_startBroken z_a1_room z_a1_strength z_a1_weight z_a1_told z_a1_startRung z_a1_startWant) S hK hP hD hS hA hE (c9_wordIn hc2 (by decide)) [0] [1, 2] [0, 3, 4, 5, 6, 7, 8, 9] [0, 8, 9, 1, 2, 3, 4, 5, 6, 7] rfl rfl rfl (by decide) (by decide) (by decide) rfl (by decide) (gdV mw_10_12 mw_10_13 mw_10_14 mw_1_17 mw_10_15) rfl rfl hd_f9_wordIn ⟨Nat.le_of_ble_eq_true rfl, Nat.le_of_ble_eq_true rfl⟩ (ci := 9) (q0 := 0) rfl rfl rfl hl.1 rfl (Nat.le_of_ble_eq_true rfl) dX2_readClause_6 (fun H locs hP hD hS => ?_)
  refine lv_istore_n (lv' := [(3, .int r_1), (0, .ref (ad_this 0)), (1, .ref (ad_a1 0)), (2, .int a2)]) hx hb dX2_readClause_9 rfl hl (by decide) rfl (fun ls hl => ?_)
  refine lv_iload_n hx hb dX2_readClause_10 rfl (lv_at hl 0 rfl) ?_
  refine lv_iconst (v := (-1 : Int32)) hx hb dX2_readClause_11 (by decide) ?_
  refine lv_icmp_ne (tgt := 24) hx hb dX2_readClause_12 rfl (fun c3 => ?_) (fun c3 => ?_)
  · replace h := ite_f c3 h
    refine lv_iload_n hx hb dX2_readClause_24 rfl (lv_at hl 3 rfl) ?_
    refine lv_bipush (v := (40 : Int32)) hx hb dX2_readClause_25 (by decide) ?_
    refine lv_icmp_ge (tgt := 51) hx hb dX2_readClause_27 rfl (fun c4 => ?_) (fun c4 => ?_)
    · replace h := ite_t c4 h
      exact J51 z_this_tape_kind z_this_tape_sign z_this_tape_fault z_this_tape_start z_this_tape_stop z_a1_rungs z_a1_people z_a1_startBroken z_a1_room z_a1_strength z_a1_weight z_a1_told z_a1_startRung z_a1_startWant H locs ls h hP hD hS (lv_sub hl [1] rfl)
    · replace h := ite_f c4 h
      refine lv_iload_n hx hb dX2_readClause_30 rfl (lv_at hl 3 rfl) ?_
      refine lv_if_ne (tgt := 38) hx hb dX2_readClause_31 rfl (fun c19 => ?_) (fun c19 => ?_)
      · replace h := ite_f c19 h
        refine lv_iconst (v := (0 : Int32)) hx hb dX2_readClause_38 (by decide) ?_
        exact J39 z_this_tape_kind z_this_tape_sign z_this_tape_fault z_this_tape_start z_this_tape_stop z_a1_rungs z_a1_people z_a1_startBroken z_a1_room z_a1_strength z_a1_weight z_a1_told z_a1_startRung z_a1_startWant r_1 (0 : Int32) H locs ls h hP hD hS (lv_sub hl [1, 2, 0] rfl)
      · replace h := ite_t c19 h
        refine lv_iconst (v := (1 : Int32)) hx hb dX2_readClause_34 (by decide) ?_
        refine lv_goto (tgt := 39) hx hb dX2_readClause_35 rfl ?_
        exact J39 z_this_tape_kind z_this_tape_sign z_this_tape_fault z_this_tape_start z_this_tape_stop z_a1_rungs z_a1_people z_a1_startBroken z_a1_room z_a1_strength z_a1_weight z_a1_told z_a1_startRung z_a1_startWant r_1 (1 : Int32) H locs ls h hP hD hS (lv_sub hl [1, 2, 0] rfl)
  · replace h := ite_t c3 h
    refine lv_aload_n hx hb dX2_readClause_15 rfl (lv_at hl 1 rfl) ?_
    refine va_get (ci := 2) (v := .ref (ad_this_tape 0)) (C := RX2) (T := TX2) (N := 1) hx hb hts inlX2 hown hK hP 0 rfl rfl 0 (by decide) (hts _ mw_4_6) (fun _ h9 => h9) rfl dX2_readClause_16 ?_
    refine lv_iconst (v := (0 : Int32)) hx hb dX2_readClause_19 (by decide) ?_
    obtain ⟨r_36, z_this_tape_fault_37, hc38, h⟩ := bnd2_el h
    refine mfV_i (As := [.int (0 : Int32)]) (rest := []) (wc := cTp ad_this_tape cy_this_tape z_this_tape_bytes z_this_tape_length z_this_tape_kind z_this_tape_sign z_this_tape_fault z_this_tape_start z_this_tape_stop) (wr := cLR ad_this cy_this (ad_this_tape 0) ++ cLd ad_a1 cy_a1 z_a1_rungs z_a1_people z_a1_startBroken z_a1_room z_a1_strength z_a1_weight z_a1_told z_a1_startRung z_a1_startWant) (wf := cLR ad_this cy_this (ad_this_tape 0) ++ cTp ad_this_tape cy_this_tape z_this_tape_bytes z_this_tape_length z_this_tape_kind z_this_tape_sign z_this_tape_fault_37 z_this_tape_start z_this_tape_stop ++ cLd ad_a1 cy_a1 z_a1_rungs z_a1_people z_a1_startBroken z_a1_room z_a1_strength z_a1_weight z_a1_told z_a1_startRung z_a1_startWant) S hK hP hD hS hA (c9_refuse hc38) [0] [1, 2] [0, 3, 4, 5, 6, 7, 8, 9] [0, 8, 9, 1, 2, 3, 4, 5, 6, 7] rfl rfl rfl (by decide) (by decide) (by decide) rfl (by decide) (gdV mw_12_17 mw_12_18 mw_12_19 mw_1_17 mw_12_20) rfl rfl hd_f9_refuse ⟨Nat.le_of_ble_eq_true rfl, Nat.le_of_ble_eq_true rfl⟩ (ci := 9) (q0 := 0) rfl rfl rfl hl.1 rfl (Nat.le_of_ble_eq_true rfl) dX2_readClause_20 (fun H locs hP hD hS => ?_)
    obtain ⟨hz, h⟩ := gd_el h
    obtain ⟨e_0, e_1, e_2, e_3, e_4, e_5, e_6, e_7, e_8, e_9, e_10, e_11, e_12, e_13, e_14⟩ := inj15 h
    subst e_0
    subst e_1
    subst e_2
    subst e_3
    subst e_4
    subst e_5
    subst e_6
    subst e_7
    subst e_8
    subst e_9
    subst e_10
    subst e_11
    subst e_12
    subst e_13
    subst e_14
    exact hret _ _ _ _ _ hP hD hS rfl (nzg hz) dX2_readClause_23
/-! LadderLand$LadderReader.readInto(LLadderLand$Ladder;)Z  -/
def f2_readInto_B9 (z_this_tape_bytes : Nat → Int32) (z_this_tape_length : Int32) (z_this_tape_kind_7 : Int32) (z_this_tape_sign_8 : Int32) (z_this_tape_fault_9 : Int32) (z_this_tape_start_10 : Int32) (z_this_tape_stop_11 : Int32) (z_a1_rungs_12 : Int32) (z_a1_people_13 : Int32) (z_a1_startBroken_14 : Int32) (z_a1_room_15 : Nat → Int32) (z_a1_strength_16 : Nat → Int32) (z_a1_weight_17 : Nat → Int32) (z_a1_told_18 : Nat → Int32) (z_a1_startRung_19 : Nat → Int32) (z_a1_startWant_20 : Nat → Int32) (v2_21 : Int32) : Option ((Int32 × Int32 × Int32 × Int32 × Int32 × Int32 × Int32 × Int32 × (Nat → Int32) × (Nat → Int32) × (Nat → Int32) × (Nat → Int32) × (Nat → Int32) × (Nat → Int32) × Int32) ⊕ ((Int32 × Int32 × Int32 × Int32 × Int32 × Int32 × Int32 × Int32 × Int32 × (Nat → Int32) × (Nat → Int32) × (Nat → Int32) × (Nat → Int32) × (Nat → Int32) × (Nat → Int32)) ⊕ (Int32 × Int32 × Int32 × Int32 × Int32 × Int32 × Int32 × Int32 × (Nat → Int32) × (Nat → Int32) × (Nat → Int32) × (Nat → Int32) × (Nat → Int32) × (Nat → Int32)))) :=
if (40 : Int32) < v2_21 then (some (.inr (.inr (z_this_tape_kind_7, z_this_tape_sign_8, z_this_tape_fault_9, z_this_tape_start_10, z_this_tape_stop_11, z_a1_rungs_12, z_a1_people_13, z_a1_startBroken_14, z_a1_room_15, z_a1_strength_16, z_a1_weight_17, z_a1_told_18, z_a1_startRung_19, z_a1_startWant_20)))) else (bnd15 (f2_readClause z_this_tape_bytes z_this_tape_length z_this_tape_kind_7 z_this_tape_sign_8 z_this_tape_fault_9 z_this_tape_start_10 z_this_tape_stop_11 z_a1_rungs_12 z_a1_people_13 z_a1_startBroken_14 z_a1_room_15 z_a1_strength_16 z_a1_weight_17 z_a1_told_18 z_a1_startRung_19 z_a1_startWant_20 v2_21) (fun r_23 z_this_tape_kind_24 z_this_tape_sign_25 z_this_tape_fault_26 z_this_tape_start_27 z_this_tape_stop_28 z_a1_rungs_29 z_a1_people_30 z_a1_startBroken_31 z_a1_room_32 z_a1_strength_33 z_a1_weight_34 z_a1_told_35 z_a1_startRung_36 z_a1_startWant_37 =>
if r_23 = 0 then (some (.inr (.inl ((0 : Int32), z_this_tape_kind_24, z_this_tape_sign_25, z_this_tape_fault_26, z_this_tape_start_27, z_this_tape_stop_28, z_a1_rungs_29, z_a1_people_30, z_a1_startBroken_31, z_a1_room_32, z_a1_strength_33, z_a1_weight_34, z_a1_told_35, z_a1_startRung_36, z_a1_startWant_37)))) else (if z_this_tape_kind_24 = 0 then (some (.inr (.inl ((1 : Int32), z_this_tape_kind_24, z_this_tape_sign_25, z_this_tape_fault_26, z_this_tape_start_27, z_this_tape_stop_28, z_a1_rungs_29, z_a1_people_30, z_a1_startBroken_31, z_a1_room_32, z_a1_strength_33, z_a1_weight_34, z_a1_told_35, z_a1_startRung_36, z_a1_startWant_37)))) else (bnd1 (f9_isAt z_this_tape_kind_24 z_this_tape_sign_25 (59 : Int32)) (fun r_41 =>
if r_41 = 0 then (bnd2 (f9_refuse z_this_tape_fault_26 z_this_tape_start_27 (0 : Int32)) (fun r_50 z_this_tape_fault_51 =>
if r_50 = 0 ∨ r_50 = 1 then some (.inr (.inl (r_50, z_this_tape_kind_24, z_this_tape_sign_25, z_this_tape_fault_51, z_this_tape_start_27, z_this_tape_stop_28, z_a1_rungs_29, z_a1_people_30, z_a1_startBroken_31, z_a1_room_32, z_a1_strength_33, z_a1_weight_34, z_a1_told_35, z_a1_startRung_36, z_a1_startWant_37))) else none)) else (bnd4 (f9_advance z_this_tape_bytes z_this_tape_length z_this_tape_kind_24 z_this_tape_sign_25 z_this_tape_start_27 z_this_tape_stop_28) (fun z_this_tape_kind_44 z_this_tape_sign_45 z_this_tape_start_46 z_this_tape_stop_47 =>
lt (v2_21 + (1 : Int32)) (fun v2_49 =>
some (.inl (z_this_tape_kind_44, z_this_tape_sign_45, z_this_tape_fault_26, z_this_tape_start_46, z_this_tape_stop_47, z_a1_rungs_29, z_a1_people_30, z_a1_startBroken_31, z_a1_room_32, z_a1_strength_33, z_a1_weight_34, z_a1_told_35, z_a1_startRung_36, z_a1_startWant_37, v2_49))))))))))

def f2_readInto (z_this_tape_bytes : Nat → Int32) (z_this_tape_length : Int32) (z_this_tape_kind : Int32) (z_this_tape_sign : Int32) (z_this_tape_fault : Int32) (z_this_tape_start : Int32) (z_this_tape_stop : Int32) (z_a1_rungs : Int32) (z_a1_people : Int32) (z_a1_startBroken : Int32) (z_a1_room : Nat → Int32) (z_a1_strength : Nat → Int32) (z_a1_weight : Nat → Int32) (z_a1_told : Nat → Int32) (z_a1_startRung : Nat → Int32) (z_a1_startWant : Nat → Int32) : Option (Int32 × Int32 × Int32 × Int32 × Int32 × Int32 × Int32 × Int32 × Int32 × (Nat → Int32) × (Nat → Int32) × (Nat → Int32) × (Nat → Int32) × (Nat → Int32) × (Nat → Int32)) :=
bnd5 (f9_open z_this_tape_bytes z_this_tape_length z_this_tape_kind z_this_tape_sign z_this_tape_fault z_this_tape_start z_this_tape_stop) (fun z_this_tape_kind_1 z_this_tape_sign_2 z_this_tape_fault_3 z_this_tape_start_4 z_this_tape_stop_5 =>
bndS14 (iter (fun (z : Int32 × Int32 × Int32 × Int32 × Int32 × Int32 × Int32 × Int32 × (Nat → Int32) × (Nat → Int32) × (Nat → Int32) × (Nat → Int32) × (Nat → Int32) × (Nat → Int32) × Int32) => f2_readInto_B9 z_this_tape_bytes z_this_tape_length z.1 z.2.1 z.2.2.1 z.2.2.2.1 z.2.2.2.2.1 z.2.2.2.2.2.1 z.2.2.2.2.2.2.1 z.2.2.2.2.2.2.2.1 z.2.2.2.2.2.2.2.2.1 z.2.2.2.2.2.2.2.2.2.1 z.2.2.2.2.2.2.2.2.2.2.1 z.2.2.2.2.2.2.2.2.2.2.2.1 z.2.2.2.2.2.2.2.2.2.2.2.2.1 z.2.2.2.2.2.2.2.2.2.2.2.2.2.1 z.2.2.2.2.2.2.2.2.2.2.2.2.2.2) FUEL (z_this_tape_kind_1, z_this_tape_sign_2, z_this_tape_fault_3, z_this_tape_start_4, z_this_tape_stop_5, z_a1_rungs, z_a1_people, z_a1_startBroken, z_a1_room, z_a1_strength, z_a1_weight, z_a1_told, z_a1_startRung, z_a1_startWant, (0 : Int32))) (fun q9 => some q9) (fun z_this_tape_kind_53 z_this_tape_sign_54 z_this_tape_fault_55 z_this_tape_start_56 z_this_tape_stop_57 z_a1_rungs_58 z_a1_people_59 z_a1_startBroken_60 z_a1_room_61 z_a1_strength_62 z_a1_weight_63 z_a1_told_64 z_a1_startRung_65 z_a1_startWant_66 =>
some ((0 : Int32), z_this_tape_kind_53, z_this_tape_sign_54, z_this_tape_fault_55, z_this_tape_start_56, z_this_tape_stop_57, z_a1_rungs_58, z_a1_people_59, z_a1_startBroken_60, z_a1_room_61, z_a1_strength_62, z_a1_weight_63, z_a1_told_64, z_a1_startRung_65, z_a1_startWant_66)))

abbrev rm_f2_readInto : Room := { frames := 7, cells := 0, slots := 0, locals := 151 }
theorem hd_f2_readInto : yX2_readInto.cls = RX2 ∧ yX2_readInto.cls ≠ "java/lang/invoke/MethodHandle" ∧ yX2_readInto.cls ≠ "java/lang/invoke/VarHandle" ∧ (parseMethodDescriptor yX2_readInto.desc).map (fun d => d.parameters.length) = some 1 := by decide +kernel
set_option maxHeartbeats 4000000 in
set_option maxRecDepth 100000 in
theorem c2_readInto {l : Launch} {D : va_G} {adK : Nat → Nat} {adV : Nat → Nat} {ad_this : Nat → Nat} {cy_this : Nat → ClassId} {ad_this_tape : Nat → Nat} {cy_this_tape : Nat → ClassId} {z_this_tape_bytes : Nat → Int32} {z_this_tape_length : Int32} {z_this_tape_kind : Int32} {z_this_tape_sign : Int32} {z_this_tape_fault : Int32} {z_this_tape_start : Int32} {z_this_tape_stop : Int32} {ad_a1 : Nat → Nat} {cy_a1 : Nat → ClassId} {z_a1_rungs : Int32} {z_a1_people : Int32} {z_a1_startBroken : Int32} {z_a1_room : Nat → Int32} {z_a1_strength : Nat → Int32} {z_a1_weight : Nat → Int32} {z_a1_told : Nat → Int32} {z_a1_startRung : Nat → Int32} {z_a1_startWant : Nat → Int32} {o_ret : Int32} {o_this_tape_kind : Int32} {o_this_tape_sign : Int32} {o_this_tape_fault : Int32} {o_this_tape_start : Int32} {o_this_tape_stop : Int32} {o_a1_rungs : Int32} {o_a1_people : Int32} {o_a1_startBroken : Int32} {o_a1_room : Nat → Int32} {o_a1_strength : Nat → Int32} {o_a1_weight : Nat → Int32} {o_a1_told : Nat → Int32} {o_a1_startRung : Nat → Int32} {o_a1_startWant : Nat → Int32} (h : f2_readInto z_this_tape_bytes z_this_tape_length z_this_tape_kind z_this_tape_sign z_this_tape_fault z_this_tape_start z_this_tape_stop z_a1_rungs z_a1_people z_a1_startBroken z_a1_room z_a1_strength z_a1_weight z_a1_told z_a1_startRung z_a1_startWant = some (o_ret, o_this_tape_kind, o_this_tape_sign, o_this_tape_fault, o_this_tape_start, o_this_tape_stop, o_a1_rungs, o_a1_people, o_a1_startBroken, o_a1_room, o_a1_strength, o_a1_weight, o_a1_told, o_a1_startRung, o_a1_startWant)) : MetIE l yX2_readInto cX2_readInto 3 (some .boolean) rm_f2_readInto D ([(cy_this_tape 1, .int), (cy_a1 1, .int), (cy_a1 2, .int), (cy_a1 3, .int), (cy_a1 4, .int), (cy_a1 5, .int), (cy_a1 6, .int)]) (cLR ad_this cy_this (ad_this_tape 0) ++ cTp ad_this_tape cy_this_tape z_this_tape_bytes z_this_tape_length z_this_tape_kind z_this_tape_sign z_this_tape_fault z_this_tape_start z_this_tape_stop ++ cLd ad_a1 cy_a1 z_a1_rungs z_a1_people z_a1_startBroken z_a1_room z_a1_strength z_a1_weight z_a1_told z_a1_startRung z_a1_startWant) (cLR ad_this cy_this (ad_this_tape 0) ++ cTp ad_this_tape cy_this_tape z_this_tape_bytes z_this_tape_length o_this_tape_kind o_this_tape_sign o_this_tape_fault o_this_tape_start o_this_tape_stop ++ cLd ad_a1 cy_a1 o_a1_rungs o_a1_people o_a1_startBroken o_a1_room o_a1_strength o_a1_weight o_a1_told o_a1_startRung o_a1_startWant) [.ref (ad_this 0), .ref (ad_a1 0)] adK adV o_ret := by
  refine metIE_of (own := RX2) rfl (by decide) (Nat.le_of_ble_eq_true rfl) ?_
  intro p e s m args below meth c A Q ls S hK hA hP hD hS hl hE hret
  obtain ⟨hx, hb, hml, hown, hts⟩ := id S
  replace hl : lv_has ls 3 [(0, .ref (ad_this 0)), (1, .ref (ad_a1 0))] := hl
  generalize hH : s.heap = H at hP ⊢
  replace hS : va_S A s.heap H [] := by rw [← hH]; exact hS
  generalize hlo : ([] : List Loc) = locs at hS ⊢
  unfold f2_readInto at h
  refine lv_aload_n hx hb dX2_readInto_0 rfl (lv_at hl 0 rfl) ?_
  refine va_get (ci := 2) (v := .ref (ad_this_tape 0)) (C := RX2) (T := TX2) (N := 1) hx hb hts inlX2 hown hK hP 0 rfl rfl 0 (by decide) (hts _ mw_4_6) (fun _ h9 => h9) rfl dX2_readInto_1 ?_
  obtain ⟨z_this_tape_kind_1, z_this_tape_sign_2, z_this_tape_fault_3, z_this_tape_start_4, z_this_tape_stop_5, hc6, h⟩ := bnd5_el h
  refine mfV_v (As := []) (rest := []) (wc := cTp ad_this_tape cy_this_tape z_this_tape_bytes z_this_tape_length z_this_tape_kind z_this_tape_sign z_this_tape_fault z_this_tape_start z_this_tape_stop) (wr := cLR ad_this cy_this (ad_this_tape 0) ++ cLd ad_a1 cy_a1 z_a1_rungs z_a1_people z_a1_startBroken z_a1_room z_a1_strength z_a1_weight z_a1_told z_a1_startRung z_a1_startWant) (wf := cLR ad_this cy_this (ad_this_tape 0) ++ cTp ad_this_tape cy_this_tape z_this_tape_bytes z_this_tape_length z_this_tape_kind_1 z_this_tape_sign_2 z_this_tape_fault_3 z_this_tape_start_4 z_this_tape_stop_5 ++ cLd ad_a1 cy_a1 z_a1_rungs z_a1_people z_a1_startBroken z_a1_room z_a1_strength z_a1_weight z_a1_told z_a1_startRung z_a1_startWant) S hK hP hD hS hA (c9_open hc6) [0] [1, 2] [0, 3, 4, 5, 6, 7, 8, 9] [0, 8, 9, 1, 2, 3, 4, 5, 6, 7] rfl rfl rfl (by decide) (by decide) (by decide) rfl (by decide) (gdV mw_9_18 mw_9_19 mw_9_20 mw_1_17 mw_9_21) rfl rfl hd_f9_open ⟨Nat.le_of_ble_eq_true rfl, Nat.le_of_ble_eq_true rfl⟩ (ci := 9) (q0 := 0) rfl rfl rfl hl.1 rfl (Nat.le_of_ble_eq_true rfl) dX2_readInto_4 (fun H locs hP hD hS => ?_)
  refine lv_iconst (v := (0 : Int32)) hx hb dX2_readInto_7 (by decide) ?_
  refine lv_istore_n (lv' := [(2, .int (0 : Int32)), (0, .ref (ad_this 0)), (1, .ref (ad_a1 0))]) hx hb dX2_readInto_8 rfl hl (by decide) rfl (fun ls hl => ?_)
  have B9 : ∀ (z_this_tape_kind_7 : Int32) (z_this_tape_sign_8 : Int32) (z_this_tape_fault_9 : Int32) (z_this_tape_start_10 : Int32) (z_this_tape_stop_11 : Int32) (z_a1_rungs_12 : Int32) (z_a1_people_13 : Int32) (z_a1_startBroken_14 : Int32) (z_a1_room_15 : Nat → Int32) (z_a1_strength_16 : Nat → Int32) (z_a1_weight_17 : Nat → Int32) (z_a1_told_18 : Nat → Int32) (z_a1_startRung_19 : Nat → Int32) (z_a1_startWant_20 : Nat → Int32) (v2_21 : Int32) (r : (Int32 × Int32 × Int32 × Int32 × Int32 × Int32 × Int32 × Int32 × (Nat → Int32) × (Nat → Int32) × (Nat → Int32) × (Nat → Int32) × (Nat → Int32) × (Nat → Int32) × Int32) ⊕ ((Int32 × Int32 × Int32 × Int32 × Int32 × Int32 × Int32 × Int32 × Int32 × (Nat → Int32) × (Nat → Int32) × (Nat → Int32) × (Nat → Int32) × (Nat → Int32) × (Nat → Int32)) ⊕ (Int32 × Int32 × Int32 × Int32 × Int32 × Int32 × Int32 × Int32 × (Nat → Int32) × (Nat → Int32) × (Nat → Int32) × (Nat → Int32) × (Nat → Int32) × (Nat → Int32)))) (H : Heap) (locs : List Loc) (ls : Array Slot), f2_readInto_B9 z_this_tape_bytes z_this_tape_length z_this_tape_kind_7 z_this_tape_sign_8 z_this_tape_fault_9 z_this_tape_start_10 z_this_tape_stop_11 z_a1_rungs_12 z_a1_people_13 z_a1_startBroken_14 z_a1_room_15 z_a1_strength_16 z_a1_weight_17 z_a1_told_18 z_a1_startRung_19 z_a1_startWant_20 v2_21 = some r → va_P D vwCl (cLR ad_this cy_this (ad_this_tape 0) ++ cTp ad_this_tape cy_this_tape z_this_tape_bytes z_this_tape_length z_this_tape_kind_7 z_this_tape_sign_8 z_this_tape_fault_9 z_this_tape_start_10 z_this_tape_stop_11 ++ cLd ad_a1 cy_a1 z_a1_rungs_12 z_a1_people_13 z_a1_startBroken_14 z_a1_room_15 z_a1_strength_16 z_a1_weight_17 z_a1_told_18 z_a1_startRung_19 z_a1_startWant_20) H → va_D A (cLR ad_this cy_this (ad_this_tape 0) ++ cTp ad_this_tape cy_this_tape z_this_tape_bytes z_this_tape_length z_this_tape_kind_7 z_this_tape_sign_8 z_this_tape_fault_9 z_this_tape_start_10 z_this_tape_stop_11 ++ cLd ad_a1 cy_a1 z_a1_rungs_12 z_a1_people_13 z_a1_startBroken_14 z_a1_room_15 z_a1_strength_16 z_a1_weight_17 z_a1_told_18 z_a1_startRung_19 z_a1_startWant_20) → va_S A s.heap H locs → lv_has ls 3 [(0, .ref (ad_this 0)), (1, .ref (ad_a1 0)), (2, .int v2_21)] → (∀ (z_this_tape_kind_7 : Int32) (z_this_tape_sign_8 : Int32) (z_this_tape_fault_9 : Int32) (z_this_tape_start_10 : Int32) (z_this_tape_stop_11 : Int32) (z_a1_rungs_12 : Int32) (z_a1_people_13 : Int32) (z_a1_startBroken_14 : Int32) (z_a1_room_15 : Nat → Int32) (z_a1_strength_16 : Nat → Int32) (z_a1_weight_17 : Nat → Int32) (z_a1_told_18 : Nat → Int32) (z_a1_startRung_19 : Nat → Int32) (z_a1_startWant_20 : Nat → Int32) (v2_21 : Int32), r = .inl (z_this_tape_kind_7, z_this_tape_sign_8, z_this_tape_fault_9, z_this_tape_start_10, z_this_tape_stop_11, z_a1_rungs_12, z_a1_people_13, z_a1_startBroken_14, z_a1_room_15, z_a1_strength_16, z_a1_weight_17, z_a1_told_18, z_a1_startRung_19, z_a1_startWant_20, v2_21) → ∀ (H : Heap) (locs : List Loc) (ls : Array Slot), va_P D vwCl (cLR ad_this cy_this (ad_this_tape 0) ++ cTp ad_this_tape cy_this_tape z_this_tape_bytes z_this_tape_length z_this_tape_kind_7 z_this_tape_sign_8 z_this_tape_fault_9 z_this_tape_start_10 z_this_tape_stop_11 ++ cLd ad_a1 cy_a1 z_a1_rungs_12 z_a1_people_13 z_a1_startBroken_14 z_a1_room_15 z_a1_strength_16 z_a1_weight_17 z_a1_told_18 z_a1_startRung_19 z_a1_startWant_20) H → va_D A (cLR ad_this cy_this (ad_this_tape 0) ++ cTp ad_this_tape cy_this_tape z_this_tape_bytes z_this_tape_length z_this_tape_kind_7 z_this_tape_sign_8 z_this_tape_fault_9 z_this_tape_start_10 z_this_tape_stop_11 ++ cLd ad_a1 cy_a1 z_a1_rungs_12 z_a1_people_13 z_a1_startBroken_14 z_a1_room_15 z_a1_strength_16 z_a1_weight_17 z_a1_told_18 z_a1_startRung_19 z_a1_startWant_20) → va_S A s.heap H locs → lv_has ls 3 [(0, .ref (ad_this 0)), (1, .ref (ad_a1 0)), (2, .int v2_21)] → W p l e rm_f2_readInto s m args below meth c H locs 0 0 Q (F0 m 9 ls [])) → (∀ (z_this_tape_kind_53 : Int32) (z_this_tape_sign_54 : Int32) (z_this_tape_fault_55 : Int32) (z_this_tape_start_56 : Int32) (z_this_tape_stop_57 : Int32) (z_a1_rungs_58 : Int32) (z_a1_people_59 : Int32) (z_a1_startBroken_60 : Int32) (z_a1_room_61 : Nat → Int32) (z_a1_strength_62 : Nat → Int32) (z_a1_weight_63 : Nat → Int32) (z_a1_told_64 : Nat → Int32) (z_a1_startRung_65 : Nat → Int32) (z_a1_startWant_66 : Nat → Int32), r = .inr (.inr (z_this_tape_kind_53, z_this_tape_sign_54, z_this_tape_fault_55, z_this_tape_start_56, z_this_tape_stop_57, z_a1_rungs_58, z_a1_people_59, z_a1_startBroken_60, z_a1_room_61, z_a1_strength_62, z_a1_weight_63, z_a1_told_64, z_a1_startRung_65, z_a1_startWant_66)) → ∀ (H : Heap) (locs : List Loc) (ls : Array Slot), va_P D vwCl (cLR ad_this cy_this (ad_this_tape 0) ++ cTp ad_this_tape cy_this_tape z_this_tape_bytes z_this_tape_length z_this_tape_kind_53 z_this_tape_sign_54 z_this_tape_fault_55 z_this_tape_start_56 z_this_tape_stop_57 ++ cLd ad_a1 cy_a1 z_a1_rungs_58 z_a1_people_59 z_a1_startBroken_60 z_a1_room_61 z_a1_strength_62 z_a1_weight_63 z_a1_told_64 z_a1_startRung_65 z_a1_startWant_66) H → va_D A (cLR ad_this cy_this (ad_this_tape 0) ++ cTp ad_this_tape cy_this_tape z_this_tape_bytes z_this_tape_length z_this_tape_kind_53 z_this_tape_sign_54 z_this_tape_fault_55 z_this_tape_start_56 z_this_tape_stop_57 ++ cLd ad_a1 cy_a1 z_a1_rungs_58 z_a1_people_59 z_a1_startBroken_60 z_a1_room_61 z_a1_strength_62 z_a1_weight_63 z_a1_told_64 z_a1_startRung_65 z_a1_startWant_66) → va_S A s.heap H locs → lv_has ls 3 [] → W p l e rm_f2_readInto s m args below meth c H locs 0 0 Q (F0 m 72 ls [])) → (∀ q, r = .inr (.inl q) → q = (o_ret, o_this_tape_kind, o_this_tape_sign, o_this_tape_fault, o_this_tape_start, o_this_tape_stop, o_a1_rungs, o_a1_people, o_a1_startBroken, o_a1_room, o_a1_strength, o_a1_weight, o_a1_told, o_a1_startRung, o_a1_startWant)) → W p l e rm_f2_readInto s m args below meth c H locs 0 0 Q (F0 m 9 ls []) := by
    intro z_this_tape_kind_7 z_this_tape_sign_8 z_this_tape_fault_9 z_this_tape_start_10 z_this_tape_stop_11 z_a1_rungs_12 z_a1_people_13 z_a1_startBroken_14 z_a1_room_15 z_a1_strength_16 z_a1_weight_17 z_a1_told_18 z_a1_startRung_19 z_a1_startWant_20 v2_21 r H locs ls h hP hD hS hl kl kx kr
    unfold f2_readInto_B9 at h
    refine lv_iload_n hx hb dX2_readInto_9 rfl (lv_at hl 2 rfl) ?_
    refine lv_bipush (v := (40 : Int32)) hx hb dX2_readInto_10 (by decide) ?_
    refine lv_icmp_gt (tgt := 72) hx hb dX2_readInto_12 rfl (fun c22 => ?_) (fun c22 => ?_)
    · replace h := ite_t c22 h
      cases h
      exact kx _ _ _ _ _ _ _ _ _ _ _ _ _ _ rfl H locs ls hP hD hS (lv_sub hl [] rfl)
    · replace h := ite_f c22 h
      refine lv_aload_n hx hb dX2_readInto_15 rfl (lv_at hl 0 rfl) ?_
      refine lv_aload_n hx hb dX2_readInto_16 rfl (lv_at hl 1 rfl) ?_
      refine lv_iload_n hx hb dX2_readInto_17 rfl (lv_at hl 2 rfl) ?_
      obtain ⟨r_23, z_this_tape_kind_24, z_this_tape_sign_25, z_this_tape_fault_26, z_this_tape_start_27, z_this_tape_stop_28, z_a1_rungs_29, z_a1_people_30, z_a1_startBroken_31, z_a1_room_32, z_a1_strength_33, z_a1_weight_34, z_a1_told_35, z_a1_startRung_36, z_a1_startWant_37, hc38, h⟩ := bnd15_el h
      refine mfV_iE (As := [.ref (ad_a1 0), .int v2_21]) (rest := []) (wc := cLR ad_this cy_this (ad_this_tape 0) ++ cTp ad_this_tape cy_this_tape z_this_tape_bytes z_this_tape_length z_this_tape_kind_7 z_this_tape_sign_8 z_this_tape_fault_9 z_this_tape_start_10 z_this_tape_stop_11 ++ cLd ad_a1 cy_a1 z_a1_rungs_12 z_a1_people_13 z_a1_startBroken_14 z_a1_room_15 z_a1_strength_16 z_a1_weight_17 z_a1_told_18 z_a1_startRung_19 z_a1_startWant_20) (wr := []) (wf := cLR ad_this cy_this (ad_this_tape 0) ++ cTp ad_this_tape cy_this_tape z_this_tape_bytes z_this_tape_length z_this_tape_kind_24 z_this_tape_sign_25 z_this_tape_fault_26 z_this_tape_start_27 z_this_tape_stop_28 ++ cLd ad_a1 cy_a1 z_a1_rungs_29 z_a1_people_30 z_a1_startBroken_31 z_a1_room_32 z_a1_strength_33 z_a1_weight_34 z_a1_told_35 z_a1_startRung_36 z_a1_startWant_37) S hK hP hD hS hA hE (c2_readClause hc38) [0, 1, 2, 3, 4, 5, 6] [0, 1, 2, 3, 4, 5, 6, 7, 8, 9] [] [0, 1, 2, 3, 4, 5, 6, 7, 8, 9] rfl rfl rfl (by decide) (by decide) (by decide) rfl (by decide) (gdV mw_10_7 mw_10_8 mw_10_9 mw_1_21 mw_10_10) rfl rfl hd_f2_readClause ⟨Nat.le_of_ble_eq_true rfl, Nat.le_of_ble_eq_true rfl⟩ (ci := 2) (q0 := 0) rfl rfl rfl hl.1 rfl (Nat.le_of_ble_eq_true rfl) dX2_readInto_18 (fun H locs hP hD hS => ?_)
      refine lv_if_ne (tgt := 26) hx hb dX2_readInto_21 rfl (fun c39 => ?_) (fun c39 => ?_)
      · replace h := ite_f c39 h
        refine lv_aload_n hx hb dX2_readInto_26 rfl (lv_at hl 0 rfl) ?_
        refine va_get (ci := 2) (v := .ref (ad_this_tape 0)) (C := RX2) (T := TX2) (N := 1) hx hb hts inlX2 hown hK hP 0 rfl rfl 0 (by decide) (hts _ mw_4_6) (fun _ h9 => h9) rfl dX2_readInto_27 ?_
        refine va_get (ci := 9) (v := .int z_this_tape_kind_24) (C := RX9) (T := TX9) (N := 7) hx hb hts inlX9 hown hK hP 1 rfl rfl 2 (by decide) (hts _ mw_9_17) (fun _ h9 => h9) rfl dX2_readInto_30 ?_
        refine lv_if_ne (tgt := 38) hx hb dX2_readInto_33 rfl (fun c40 => ?_) (fun c40 => ?_)
        · replace h := ite_f c40 h
          refine lv_aload_n hx hb dX2_readInto_38 rfl (lv_at hl 0 rfl) ?_
          refine va_get (ci := 2) (v := .ref (ad_this_tape 0)) (C := RX2) (T := TX2) (N := 1) hx hb hts inlX2 hown hK hP 0 rfl rfl 0 (by decide) (hts _ mw_4_6) (fun _ h9 => h9) rfl dX2_readInto_39 ?_
          refine lv_bipush (v := (59 : Int32)) hx hb dX2_readInto_42 (by decide) ?_
          obtain ⟨r_41, hc42, h⟩ := bnd1_el h
          refine mfV_i (As := [.int (59 : Int32)]) (rest := []) (wc := cTp ad_this_tape cy_this_tape z_this_tape_bytes z_this_tape_length z_this_tape_kind_24 z_this_tape_sign_25 z_this_tape_fault_26 z_this_tape_start_27 z_this_tape_stop_28) (wr := cLR ad_this cy_this (ad_this_tape 0) ++ cLd ad_a1 cy_a1 z_a1_rungs_29 z_a1_people_30 z_a1_startBroken_31 z_a1_room_32 z_a1_strength_33 z_a1_weight_34 z_a1_told_35 z_a1_startRung_36 z_a1_startWant_37) (wf := cLR ad_this cy_this (ad_this_tape 0) ++ cTp ad_this_tape cy_this_tape z_this_tape_bytes z_this_tape_length z_this_tape_kind_24 z_this_tape_sign_25 z_this_tape_fault_26 z_this_tape_start_27 z_this_tape_stop_28 ++ cLd ad_a1 cy_a1 z_a1_rungs_29 z_a1_people_30 z_a1_startBroken_31 z_a1_room_32 z_a1_strength_33 z_a1_weight_34 z_a1_told_35 z_a1_startRung_36 z_a1_startWant_37) S hK hP hD hS hA (c9_isAt hc42) [0] [1, 2] [0, 3, 4, 5, 6, 7, 8, 9] [0, 8, 9, 1, 2, 3, 4, 5, 6, 7] rfl rfl rfl (by decide) (by decide) (by decide) rfl (by decide) (gdV mw_14_21 mw_14_22 mw_14_23 mw_1_17 mw_15_0) rfl rfl hd_f9_isAt ⟨Nat.le_of_ble_eq_true rfl, Nat.le_of_ble_eq_true rfl⟩ (ci := 9) (q0 := 0) rfl rfl rfl hl.1 rfl (Nat.le_of_ble_eq_true rfl) dX2_readInto_44 (fun H locs hP hD hS => ?_)
          refine lv_if_ne (tgt := 59) hx hb dX2_readInto_47 rfl (fun c43 => ?_) (fun c43 => ?_)
          · replace h := ite_f c43 h
            refine lv_aload_n hx hb dX2_readInto_59 rfl (lv_at hl 0 rfl) ?_
            refine va_get (ci := 2) (v := .ref (ad_this_tape 0)) (C := RX2) (T := TX2) (N := 1) hx hb hts inlX2 hown hK hP 0 rfl rfl 0 (by decide) (hts _ mw_4_6) (fun _ h9 => h9) rfl dX2_readInto_60 ?_
            obtain ⟨z_this_tape_kind_44, z_this_tape_sign_45, z_this_tape_start_46, z_this_tape_stop_47, hc48, h⟩ := bnd4_el h
            refine mfV_v (As := []) (rest := []) (wc := cTp ad_this_tape cy_this_tape z_this_tape_bytes z_this_tape_length z_this_tape_kind_24 z_this_tape_sign_25 z_this_tape_fault_26 z_this_tape_start_27 z_this_tape_stop_28) (wr := cLR ad_this cy_this (ad_this_tape 0) ++ cLd ad_a1 cy_a1 z_a1_rungs_29 z_a1_people_30 z_a1_startBroken_31 z_a1_room_32 z_a1_strength_33 z_a1_weight_34 z_a1_told_35 z_a1_startRung_36 z_a1_startWant_37) (wf := cLR ad_this cy_this (ad_this_tape 0) ++ cTp ad_this_tape cy_this_tape z_this_tape_bytes z_this_tape_length z_this_tape_kind_44 z_this_tape_sign_45 z_this_tape_fault_26 z_this_tape_start_46 z_this_tape_stop_47 ++ cLd ad_a1 cy_a1 z_a1_rungs_29 z_a1_people_30 z_a1_startBroken_31 z_a1_room_32 z_a1_strength_33 z_a1_weight_34 z_a1_told_35 z_a1_startRung_36 z_a1_startWant_37) S hK hP hD hS hA (c9_advance hc48) [0] [1, 2] [0, 3, 4, 5, 6, 7, 8, 9] [0, 8, 9, 1, 2, 3, 4, 5, 6, 7] rfl rfl rfl (by decide) (by decide) (by decide) rfl (by decide) (gdV mw_12_21 mw_10_1 mw_10_2 mw_1_17 mw_10_3) rfl rfl hd_f9_advance ⟨Nat.le_of_ble_eq_true rfl, Nat.le_of_ble_eq_true rfl⟩ (ci := 9) (q0 := 0) rfl rfl rfl hl.1 rfl (Nat.le_of_ble_eq_true rfl) dX2_readInto_63 (fun H locs hP hD hS => ?_)
            obtain ⟨v2_49, ev2_49, h⟩ := lt_el h
            refine lv_iinc (v := v2_49) (lv' := [(2, .int v2_49), (0, .ref (ad_this 0)), (1, .ref (ad_a1 0))]) hx hb dX2_readInto_66 hl (k := 2) rfl (by rw [ev2_49]; rfl) (by decide) rfl (fun ls hl => ?_)
            refine lv_goto (tgt := 9) hx hb dX2_readInto_69 rfl ?_
            cases h
            exact kl _ _ _ _ _ _ _ _ _ _ _ _ _ _ _ rfl H locs ls hP hD hS (lv_sub hl [1, 2, 0] rfl)
          · replace h := ite_t c43 h
            refine lv_aload_n hx hb dX2_readInto_50 rfl (lv_at hl 0 rfl) ?_
            refine va_get (ci := 2) (v := .ref (ad_this_tape 0)) (C := RX2) (T := TX2) (N := 1) hx hb hts inlX2 hown hK hP 0 rfl rfl 0 (by decide) (hts _ mw_4_6) (fun _ h9 => h9) rfl dX2_readInto_51 ?_
            refine lv_iconst (v := (0 : Int32)) hx hb dX2_readInto_54 (by decide) ?_
            obtain ⟨r_50, z_this_tape_fault_51, hc52, h⟩ := bnd2_el h
            refine mfV_i (As := [.int (0 : Int32)]) (rest := []) (wc := cTp ad_this_tape cy_this_tape z_this_tape_bytes z_this_tape_length z_this_tape_kind_24 z_this_tape_sign_25 z_this_tape_fault_26 z_this_tape_start_27 z_this_tape_stop_28) (wr := cLR ad_this cy_this (ad_this_tape 0) ++ cLd ad_a1 cy_a1 z_a1_rungs_29 z_a1_people_30 z_a1_startBroken_31 z_a1_room_32 z_a1_strength_33 z_a1_weight_34 z_a1_told_35 z_a1_startRung_36 z_a1_startWant_37) (wf := cLR ad_this cy_this (ad_this_tape 0) ++ cTp ad_this_tape cy_this_tape z_this_tape_bytes z_this_tape_length z_this_tape_kind_24 z_this_tape_sign_25 z_this_tape_fault_51 z_this_tape_start_27 z_this_tape_stop_28 ++ cLd ad_a1 cy_a1 z_a1_rungs_29 z_a1_people_30 z_a1_startBroken_31 z_a1_room_32 z_a1_strength_33 z_a1_weight_34 z_a1_told_35 z_a1_startRung_36 z_a1_startWant_37) S hK hP hD hS hA (c9_refuse hc52) [0] [1, 2] [0, 3, 4, 5, 6, 7, 8, 9] [0, 8, 9, 1, 2, 3, 4, 5, 6, 7] rfl rfl rfl (by decide) (by decide) (by decide) rfl (by decide) (gdV mw_12_17 mw_12_18 mw_12_19 mw_1_17 mw_12_20) rfl rfl hd_f9_refuse ⟨Nat.le_of_ble_eq_true rfl, Nat.le_of_ble_eq_true rfl⟩ (ci := 9) (q0 := 0) rfl rfl rfl hl.1 rfl (Nat.le_of_ble_eq_true rfl) dX2_readInto_55 (fun H locs hP hD hS => ?_)
            obtain ⟨hz, h⟩ := gd_el h
            cases h
            obtain ⟨e_0, e_1, e_2, e_3, e_4, e_5, e_6, e_7, e_8, e_9, e_10, e_11, e_12, e_13, e_14⟩ := jnj15 (kr _ rfl)
            subst e_0
            subst e_1
            subst e_2
            subst e_3
            subst e_4
            subst e_5
            subst e_6
            subst e_7
            subst e_8
            subst e_9
            subst e_10
            subst e_11
            subst e_12
            subst e_13
            subst e_14
            exact hret _ _ _ _ _ hP hD hS rfl (nzg hz) dX2_readInto_58
        · replace h := ite_t c40 h
          refine lv_iconst (v := (1 : Int32)) hx hb dX2_readInto_36 (by decide) ?_
          cases h
          obtain ⟨e_0, e_1, e_2, e_3, e_4, e_5, e_6, e_7, e_8, e_9, e_10, e_11, e_12, e_13, e_14⟩ := jnj15 (kr _ rfl)
          subst e_0
          subst e_1
          subst e_2
          subst e_3
          subst e_4
          subst e_5
          subst e_6
          subst e_7
          subst e_8
          subst e_9
          subst e_10
          subst e_11
          subst e_12
          subst e_13
          subst e_14
          exact hret _ _ _ _ _ hP hD hS rfl nz1 dX2_readInto_37
      · replace h := ite_t c39 h
        refine lv_iconst (v := (0 : Int32)) hx hb dX2_readInto_24 (by decide) ?_
        cases h
        obtain ⟨e_0, e_1, e_2, e_3, e_4, e_5, e_6, e_7, e_8, e_9, e_10, e_11, e_12, e_13, e_14⟩ := jnj15 (kr _ rfl)
        subst e_0
        subst e_1
        subst e_2
        subst e_3
        subst e_4
        subst e_5
        subst e_6
        subst e_7
        subst e_8
        subst e_9
        subst e_10
        subst e_11
        subst e_12
        subst e_13
        subst e_14
        exact hret _ _ _ _ _ hP hD hS rfl nz0 dX2_readInto_25
  have L9 : ∀ (n : Nat) (z_this_tape_kind_7 : Int32) (z_this_tape_sign_8 : Int32) (z_this_tape_fault_9 : Int32) (z_this_tape_start_10 : Int32) (z_this_tape_stop_11 : Int32) (z_a1_rungs_12 : Int32) (z_a1_people_13 : Int32) (z_a1_startBroken_14 : Int32) (z_a1_room_15 : Nat → Int32) (z_a1_strength_16 : Nat → Int32) (z_a1_weight_17 : Nat → Int32) (z_a1_told_18 : Nat → Int32) (z_a1_startRung_19 : Nat → Int32) (z_a1_startWant_20 : Nat → Int32) (v2_21 : Int32) (e9 : (Int32 × Int32 × Int32 × Int32 × Int32 × Int32 × Int32 × Int32 × Int32 × (Nat → Int32) × (Nat → Int32) × (Nat → Int32) × (Nat → Int32) × (Nat → Int32) × (Nat → Int32)) ⊕ (Int32 × Int32 × Int32 × Int32 × Int32 × Int32 × Int32 × Int32 × (Nat → Int32) × (Nat → Int32) × (Nat → Int32) × (Nat → Int32) × (Nat → Int32) × (Nat → Int32))) (H : Heap) (locs : List Loc) (ls : Array Slot), iter (fun (z : Int32 × Int32 × Int32 × Int32 × Int32 × Int32 × Int32 × Int32 × (Nat → Int32) × (Nat → Int32) × (Nat → Int32) × (Nat → Int32) × (Nat → Int32) × (Nat → Int32) × Int32) => f2_readInto_B9 z_this_tape_bytes z_this_tape_length z.1 z.2.1 z.2.2.1 z.2.2.2.1 z.2.2.2.2.1 z.2.2.2.2.2.1 z.2.2.2.2.2.2.1 z.2.2.2.2.2.2.2.1 z.2.2.2.2.2.2.2.2.1 z.2.2.2.2.2.2.2.2.2.1 z.2.2.2.2.2.2.2.2.2.2.1 z.2.2.2.2.2.2.2.2.2.2.2.1 z.2.2.2.2.2.2.2.2.2.2.2.2.1 z.2.2.2.2.2.2.2.2.2.2.2.2.2.1 z.2.2.2.2.2.2.2.2.2.2.2.2.2.2) n (z_this_tape_kind_7, z_this_tape_sign_8, z_this_tape_fault_9, z_this_tape_start_10, z_this_tape_stop_11, z_a1_rungs_12, z_a1_people_13, z_a1_startBroken_14, z_a1_room_15, z_a1_strength_16, z_a1_weight_17, z_a1_told_18, z_a1_startRung_19, z_a1_startWant_20, v2_21) = some e9 → va_P D vwCl (cLR ad_this cy_this (ad_this_tape 0) ++ cTp ad_this_tape cy_this_tape z_this_tape_bytes z_this_tape_length z_this_tape_kind_7 z_this_tape_sign_8 z_this_tape_fault_9 z_this_tape_start_10 z_this_tape_stop_11 ++ cLd ad_a1 cy_a1 z_a1_rungs_12 z_a1_people_13 z_a1_startBroken_14 z_a1_room_15 z_a1_strength_16 z_a1_weight_17 z_a1_told_18 z_a1_startRung_19 z_a1_startWant_20) H → va_D A (cLR ad_this cy_this (ad_this_tape 0) ++ cTp ad_this_tape cy_this_tape z_this_tape_bytes z_this_tape_length z_this_tape_kind_7 z_this_tape_sign_8 z_this_tape_fault_9 z_this_tape_start_10 z_this_tape_stop_11 ++ cLd ad_a1 cy_a1 z_a1_rungs_12 z_a1_people_13 z_a1_startBroken_14 z_a1_room_15 z_a1_strength_16 z_a1_weight_17 z_a1_told_18 z_a1_startRung_19 z_a1_startWant_20) → va_S A s.heap H locs → lv_has ls 3 [(0, .ref (ad_this 0)), (1, .ref (ad_a1 0)), (2, .int v2_21)] → (∀ (z_this_tape_kind_53 : Int32) (z_this_tape_sign_54 : Int32) (z_this_tape_fault_55 : Int32) (z_this_tape_start_56 : Int32) (z_this_tape_stop_57 : Int32) (z_a1_rungs_58 : Int32) (z_a1_people_59 : Int32) (z_a1_startBroken_60 : Int32) (z_a1_room_61 : Nat → Int32) (z_a1_strength_62 : Nat → Int32) (z_a1_weight_63 : Nat → Int32) (z_a1_told_64 : Nat → Int32) (z_a1_startRung_65 : Nat → Int32) (z_a1_startWant_66 : Nat → Int32), e9 = (.inr (z_this_tape_kind_53, z_this_tape_sign_54, z_this_tape_fault_55, z_this_tape_start_56, z_this_tape_stop_57, z_a1_rungs_58, z_a1_people_59, z_a1_startBroken_60, z_a1_room_61, z_a1_strength_62, z_a1_weight_63, z_a1_told_64, z_a1_startRung_65, z_a1_startWant_66)) → ∀ (H : Heap) (locs : List Loc) (ls : Array Slot), va_P D vwCl (cLR ad_this cy_this (ad_this_tape 0) ++ cTp ad_this_tape cy_this_tape z_this_tape_bytes z_this_tape_length z_this_tape_kind_53 z_this_tape_sign_54 z_this_tape_fault_55 z_this_tape_start_56 z_this_tape_stop_57 ++ cLd ad_a1 cy_a1 z_a1_rungs_58 z_a1_people_59 z_a1_startBroken_60 z_a1_room_61 z_a1_strength_62 z_a1_weight_63 z_a1_told_64 z_a1_startRung_65 z_a1_startWant_66) H → va_D A (cLR ad_this cy_this (ad_this_tape 0) ++ cTp ad_this_tape cy_this_tape z_this_tape_bytes z_this_tape_length z_this_tape_kind_53 z_this_tape_sign_54 z_this_tape_fault_55 z_this_tape_start_56 z_this_tape_stop_57 ++ cLd ad_a1 cy_a1 z_a1_rungs_58 z_a1_people_59 z_a1_startBroken_60 z_a1_room_61 z_a1_strength_62 z_a1_weight_63 z_a1_told_64 z_a1_startRung_65 z_a1_startWant_66) → va_S A s.heap H locs → lv_has ls 3 [] → W p l e rm_f2_readInto s m args below meth c H locs 0 0 Q (F0 m 72 ls [])) → (∀ q, e9 = .inl q → q = (o_ret, o_this_tape_kind, o_this_tape_sign, o_this_tape_fault, o_this_tape_start, o_this_tape_stop, o_a1_rungs, o_a1_people, o_a1_startBroken, o_a1_room, o_a1_strength, o_a1_weight, o_a1_told, o_a1_startRung, o_a1_startWant)) → W p l e rm_f2_readInto s m args below meth c H locs 0 0 Q (F0 m 9 ls []) := by
    intro n
    induction n with
    | zero => intro z_this_tape_kind_7 z_this_tape_sign_8 z_this_tape_fault_9 z_this_tape_start_10 z_this_tape_stop_11 z_a1_rungs_12 z_a1_people_13 z_a1_startBroken_14 z_a1_room_15 z_a1_strength_16 z_a1_weight_17 z_a1_told_18 z_a1_startRung_19 z_a1_startWant_20 v2_21 e9 H locs ls h; exact (iter_0 h).elim
    | succ n ih =>
      intro z_this_tape_kind_7 z_this_tape_sign_8 z_this_tape_fault_9 z_this_tape_start_10 z_this_tape_stop_11 z_a1_rungs_12 z_a1_people_13 z_a1_startBroken_14 z_a1_room_15 z_a1_strength_16 z_a1_weight_17 z_a1_told_18 z_a1_startRung_19 z_a1_startWant_20 v2_21 e9 H locs ls h hP hD hS hl kx kr
      obtain ⟨r, hb9, hor⟩ := iter_el h
      refine B9 z_this_tape_kind_7 z_this_tape_sign_8 z_this_tape_fault_9 z_this_tape_start_10 z_this_tape_stop_11 z_a1_rungs_12 z_a1_people_13 z_a1_startBroken_14 z_a1_room_15 z_a1_strength_16 z_a1_weight_17 z_a1_told_18 z_a1_startRung_19 z_a1_startWant_20 v2_21 r H locs ls hb9 hP hD hS hl ?_ ?_ ?_
      · intro z_this_tape_kind_7' z_this_tape_sign_8' z_this_tape_fault_9' z_this_tape_start_10' z_this_tape_stop_11' z_a1_rungs_12' z_a1_people_13' z_a1_startBroken_14' z_a1_room_15' z_a1_strength_16' z_a1_weight_17' z_a1_told_18' z_a1_startRung_19' z_a1_startWant_20' v2_21' er H locs ls hP hD hS hl
        subst er
        rcases hor with ⟨s', e', hi⟩ | e'
        · cases e'; exact ih _ _ _ _ _ _ _ _ _ _ _ _ _ _ _ _ H locs ls hi hP hD hS hl kx kr
        · cases e'
      · intro z_this_tape_kind_53' z_this_tape_sign_54' z_this_tape_fault_55' z_this_tape_start_56' z_this_tape_stop_57' z_a1_rungs_58' z_a1_people_59' z_a1_startBroken_60' z_a1_room_61' z_a1_strength_62' z_a1_weight_63' z_a1_told_64' z_a1_startRung_65' z_a1_startWant_66' er H locs ls hP hD hS hl
        subst er
        rcases hor with ⟨s', e', hi⟩ | e'
        · cases e'
        · cases e'; exact kx _ _ _ _ _ _ _ _ _ _ _ _ _ _ rfl H locs ls hP hD hS hl
      · intro q er
        subst er
        rcases hor with ⟨s', e', hi⟩ | e'
        · cases e'
        · cases e'; exact kr _ rfl
  rcases bndS14_el h with ⟨q9, hi9, h⟩ | ⟨z_this_tape_kind_53, z_this_tape_sign_54, z_this_tape_fault_55, z_this_tape_start_56, z_this_tape_stop_57, z_a1_rungs_58, z_a1_people_59, z_a1_startBroken_60, z_a1_room_61, z_a1_strength_62, z_a1_weight_63, z_a1_told_64, z_a1_startRung_65, z_a1_startWant_66, hi9, h⟩
  · refine L9 FUEL z_this_tape_kind_1 z_this_tape_sign_2 z_this_tape_fault_3 z_this_tape_start_4 z_this_tape_stop_5 z_a1_rungs z_a1_people z_a1_startBroken z_a1_room z_a1_strength z_a1_weight z_a1_told z_a1_startRung z_a1_startWant (0 : Int32) _ H locs ls hi9 hP hD hS (lv_sub hl [1, 2, 0] rfl) ?_ ?_
    · intro z_this_tape_kind_53' z_this_tape_sign_54' z_this_tape_fault_55' z_this_tape_start_56' z_this_tape_stop_57' z_a1_rungs_58' z_a1_people_59' z_a1_startBroken_60' z_a1_room_61' z_a1_strength_62' z_a1_weight_63' z_a1_told_64' z_a1_startRung_65' z_a1_startWant_66' er; cases er
    · intro q er; cases er; exact Option.some.inj h
  refine L9 FUEL z_this_tape_kind_1 z_this_tape_sign_2 z_this_tape_fault_3 z_this_tape_start_4 z_this_tape_stop_5 z_a1_rungs z_a1_people z_a1_startBroken z_a1_room z_a1_strength z_a1_weight z_a1_told z_a1_startRung z_a1_startWant (0 : Int32) _ H locs ls hi9 hP hD hS (lv_sub hl [1, 2, 0] rfl) ?_ (fun q er => by cases er)
  intro z_this_tape_kind_53' z_this_tape_sign_54' z_this_tape_fault_55' z_this_tape_start_56' z_this_tape_stop_57' z_a1_rungs_58' z_a1_people_59' z_a1_startBroken_60' z_a1_room_61' z_a1_strength_62' z_a1_weight_63' z_a1_told_64' z_a1_startRung_65' z_a1_startWant_66' er H locs ls hP hD hS hl
  cases er
  refine lv_iconst (v := (0 : Int32)) hx hb dX2_readInto_72 (by decide) ?_
  obtain ⟨e_0, e_1, e_2, e_3, e_4, e_5, e_6, e_7, e_8, e_9, e_10, e_11, e_12, e_13, e_14⟩ := inj15 h
  subst e_0
  subst e_1
  subst e_2
  subst e_3
  subst e_4
  subst e_5
  subst e_6
  subst e_7
  subst e_8
  subst e_9
  subst e_10
  subst e_11
  subst e_12
  subst e_13
  subst e_14
  exact hret _ _ _ _ _ hP hD hS rfl nz0 dX2_readInto_73

/-! LadderLand$RuleReader.emit(II)V  -/
def f6_emit (z_this_code : Nat → Int32) (z_this_size : Int32) (a1 : Int32) (a2 : Int32) : Option ((Nat → Int32) × Int32) :=
if (400 : Int32) ≤ z_this_size then (some (z_this_code, z_this_size)) else (lt (((a1 <<< ((20 : Int32) &&& 31)) ||| a2)) (fun x_2 =>
if z_this_size < 0 ∨ 400 ≤ Int32.toNatClampNeg z_this_size then none else (
lt (upd z_this_code (Int32.toNatClampNeg z_this_size) x_2) (fun z_this_code_4 =>
lt ((z_this_size + (1 : Int32))) (fun x_5 =>
some (z_this_code_4, x_5))))))

abbrev rm_f6_emit : Room := { frames := 0, cells := 0, slots := 0, locals := 0 }
theorem hd_f6_emit : yX6_emit.cls = RX6 ∧ yX6_emit.cls ≠ "java/lang/invoke/MethodHandle" ∧ yX6_emit.cls ≠ "java/lang/invoke/VarHandle" ∧ (parseMethodDescriptor yX6_emit.desc).map (fun d => d.parameters.length) = some 2 := by decide +kernel
set_option maxHeartbeats 4000000 in
set_option maxRecDepth 100000 in
theorem c6_emit {l : Launch} {D : va_G} {ad_this : Nat → Nat} {cy_this : Nat → ClassId} {z_this_tape : Nat} {z_this_code : Nat → Int32} {z_this_sumEnd : Nat → Int32} {z_this_testEnd : Nat → Int32} {z_this_size : Int32} {z_this_clauses : Int32} {z_this_values : Int32} {a1 : Int32} {a2 : Int32} {o_this_code : Nat → Int32} {o_this_size : Int32} (h : f6_emit z_this_code z_this_size a1 a2 = some (o_this_code, o_this_size)) : MetV l yX6_emit cX6_emit 3 none rm_f6_emit D ([(cy_this 1, .int), (cy_this 2, .int), (cy_this 3, .int)]) (cRR ad_this cy_this z_this_tape z_this_code z_this_sumEnd z_this_testEnd z_this_size z_this_clauses z_this_values) (cRR ad_this cy_this z_this_tape o_this_code z_this_sumEnd z_this_testEnd o_this_size z_this_clauses z_this_values) [.ref (ad_this 0), .int a1, .int a2] := by
  refine metV_of (own := RX6) rfl (by decide) (Nat.le_of_ble_eq_true rfl) ?_
  intro p e s m args below meth c A Q ls S hK hA hP hD hS hl hret
  obtain ⟨hx, hb, hml, hown, hts⟩ := id S
  replace hl : lv_has ls 3 [(0, .ref (ad_this 0)), (1, .int a1), (2, .int a2)] := hl
  generalize hH : s.heap = H at hP ⊢
  replace hS : va_S A s.heap H [] := by rw [← hH]; exact hS
  generalize hlo : ([] : List Loc) = locs at hS ⊢
  unfold f6_emit at h
  refine lv_aload_n hx hb dX6_emit_0 rfl (lv_at hl 0 rfl) ?_
  refine va_get (ci := 6) (v := .int z_this_size) (C := RX6) (T := TX6) (N := 7) hx hb hts inlX6 hown hK hP 0 rfl rfl 4 (by decide) (hts _ mw_23_1) (fun _ h9 => h9) rfl dX6_emit_1 ?_
  refine lv_aload_n hx hb dX6_emit_4 rfl (lv_at hl 0 rfl) ?_
  refine va_get (ci := 6) (v := .ref (ad_this 1)) (C := RX6) (T := TX6) (N := 7) hx hb hts inlX6 hown hK hP 0 rfl rfl 1 (by decide) (hts _ mw_4_11) (fun _ h9 => h9) rfl dX6_emit_5 ?_
  refine va_alen (v := (400 : Int32)) hx hb hK hP 1 0 rfl rfl rfl dX6_emit_8 ?_
  refine lv_icmp_ge (tgt := 37) hx hb dX6_emit_9 rfl (fun c1 => ?_) (fun c1 => ?_)
  · replace h := ite_t c1 h
    obtain ⟨e_0, e_1⟩ := inj2 h
    subst e_0
    subst e_1
    exact hret _ _ _ _ hP hD hS dX6_emit_37
  · replace h := ite_f c1 h
    refine lv_aload_n hx hb dX6_emit_12 rfl (lv_at hl 0 rfl) ?_
    refine va_get (ci := 6) (v := .ref (ad_this 1)) (C := RX6) (T := TX6) (N := 7) hx hb hts inlX6 hown hK hP 0 rfl rfl 1 (by decide) (hts _ mw_4_11) (fun _ h9 => h9) rfl dX6_emit_13 ?_
    refine lv_aload_n hx hb dX6_emit_16 rfl (lv_at hl 0 rfl) ?_
    refine va_get (ci := 6) (v := .int z_this_size) (C := RX6) (T := TX6) (N := 7) hx hb hts inlX6 hown hK hP 0 rfl rfl 4 (by decide) (hts _ mw_23_1) (fun _ h9 => h9) rfl dX6_emit_17 ?_
    refine lv_iload_n hx hb dX6_emit_20 rfl (lv_at hl 1 rfl) ?_
    refine lv_bipush (v := (20 : Int32)) hx hb dX6_emit_21 (by decide) ?_
    refine lv_ishl hx hb dX6_emit_23 ?_
    refine lv_iload_n hx hb dX6_emit_24 rfl (lv_at hl 2 rfl) ?_
    refine lv_ior hx hb dX6_emit_25 ?_
    refine lv_topi (fun x_2 ex_2 => ?_)
    replace h := lt_ex ex_2 h
    obtain ⟨b3, h⟩ := bd_el h
    refine as_i (f := z_this_code) hx hb hK hP hD hS 1 0 rfl rfl b3 dX6_emit_26 (fun z_this_code_4 H locs ez_this_code_4 hP hD hS => ?_)
    replace h := lt_ex ez_this_code_4 h
    replace hP : va_P D vwCl (cRR ad_this cy_this z_this_tape z_this_code_4 z_this_sumEnd z_this_testEnd z_this_size z_this_clauses z_this_values) H := hP
    replace hD : va_D A (cRR ad_this cy_this z_this_tape z_this_code_4 z_this_sumEnd z_this_testEnd z_this_size z_this_clauses z_this_values) := hD
    refine lv_aload_n hx hb dX6_emit_27 rfl (lv_at hl 0 rfl) ?_
    refine lv_dup hx hb dX6_emit_28 rfl ?_
    refine va_get (ci := 6) (v := .int z_this_size) (C := RX6) (T := TX6) (N := 7) hx hb hts inlX6 hown hK hP 0 rfl rfl 4 (by decide) (hts _ mw_23_1) (fun _ h9 => h9) rfl dX6_emit_29 ?_
    refine lv_iconst (v := (1 : Int32)) hx hb dX6_emit_32 (by decide) ?_
    refine lv_iadd hx hb dX6_emit_33 ?_
    refine lv_topi (fun x_5 ex_5 => ?_)
    replace h := lt_ex ex_5 h
    refine va_put (ci := 6) (v := .int x_5) (ty := .int) (C := RX6) (T := TX6) (N := 7) hx hb hts inlX6 tyX6 tyX6_ok nmX6 hown hK hP hD hS 0 rfl rfl 4 (by decide) (hts _ mw_23_1) (fun _ h9 => h9) rfl (by decide +kernel) rfl rfl (Nat.le_of_ble_eq_true rfl) dX6_emit_34 (fun H locs hP hD hS => ?_)
    replace hP : va_P D vwCl (cRR ad_this cy_this z_this_tape z_this_code_4 z_this_sumEnd z_this_testEnd x_5 z_this_clauses z_this_values) H := hP
    replace hD : va_D A (cRR ad_this cy_this z_this_tape z_this_code_4 z_this_sumEnd z_this_testEnd x_5 z_this_clauses z_this_values) := hD
    obtain ⟨e_0, e_1⟩ := inj2 h
    subst e_0
    subst e_1
    exact hret _ _ _ _ hP hD hS dX6_emit_37
/-! LadderLand$RuleReader.emitWaiting(I)V  -/
def f6_emitWaiting (z_this_code : Nat → Int32) (z_this_size : Int32) (a1 : Int32) : Option ((Nat → Int32) × Int32) :=
if a1 = (-1 : Int32) then (some (z_this_code, z_this_size)) else (bnd2 (f6_emit z_this_code z_this_size (2 : Int32) a1) (fun z_this_code_2 z_this_size_3 =>
some (z_this_code_2, z_this_size_3)))

abbrev rm_f6_emitWaiting : Room := { frames := 1, cells := 0, slots := 0, locals := 22 }
theorem hd_f6_emitWaiting : yX6_emitWaiting.cls = RX6 ∧ yX6_emitWaiting.cls ≠ "java/lang/invoke/MethodHandle" ∧ yX6_emitWaiting.cls ≠ "java/lang/invoke/VarHandle" ∧ (parseMethodDescriptor yX6_emitWaiting.desc).map (fun d => d.parameters.length) = some 1 := by decide +kernel
set_option maxHeartbeats 4000000 in
set_option maxRecDepth 100000 in
theorem c6_emitWaiting {l : Launch} {D : va_G} {ad_this : Nat → Nat} {cy_this : Nat → ClassId} {z_this_tape : Nat} {z_this_code : Nat → Int32} {z_this_sumEnd : Nat → Int32} {z_this_testEnd : Nat → Int32} {z_this_size : Int32} {z_this_clauses : Int32} {z_this_values : Int32} {a1 : Int32} {o_this_code : Nat → Int32} {o_this_size : Int32} (h : f6_emitWaiting z_this_code z_this_size a1 = some (o_this_code, o_this_size)) : MetV l yX6_emitWaiting cX6_emitWaiting 2 none rm_f6_emitWaiting D ([(cy_this 1, .int), (cy_this 2, .int), (cy_this 3, .int)]) (cRR ad_this cy_this z_this_tape z_this_code z_this_sumEnd z_this_testEnd z_this_size z_this_clauses z_this_values) (cRR ad_this cy_this z_this_tape o_this_code z_this_sumEnd z_this_testEnd o_this_size z_this_clauses z_this_values) [.ref (ad_this 0), .int a1] := by
  refine metV_of (own := RX6) rfl (by decide) (Nat.le_of_ble_eq_true rfl) ?_
  intro p e s m args below meth c A Q ls S hK hA hP hD hS hl hret
  obtain ⟨hx, hb, hml, hown, hts⟩ := id S
  replace hl : lv_has ls 2 [(0, .ref (ad_this 0)), (1, .int a1)] := hl
  generalize hH : s.heap = H at hP ⊢
  replace hS : va_S A s.heap H [] := by rw [← hH]; exact hS
  generalize hlo : ([] : List Loc) = locs at hS ⊢
  unfold f6_emitWaiting at h
  refine lv_iload_n hx hb dX6_emitWaiting_0 rfl (lv_at hl 1 rfl) ?_
  refine lv_iconst (v := (-1 : Int32)) hx hb dX6_emitWaiting_1 (by decide) ?_
  refine lv_icmp_eq (tgt := 11) hx hb dX6_emitWaiting_2 rfl (fun c1 => ?_) (fun c1 => ?_)
  · replace h := ite_t c1 h
    obtain ⟨e_0, e_1⟩ := inj2 h
    subst e_0
    subst e_1
    exact hret _ _ _ _ hP hD hS dX6_emitWaiting_11
  · replace h := ite_f c1 h
    refine lv_aload_n hx hb dX6_emitWaiting_5 rfl (lv_at hl 0 rfl) ?_
    refine lv_iconst (v := (2 : Int32)) hx hb dX6_emitWaiting_6 (by decide) ?_
    refine lv_iload_n hx hb dX6_emitWaiting_7 rfl (lv_at hl 1 rfl) ?_
    obtain ⟨z_this_code_2, z_this_size_3, hc4, h⟩ := bnd2_el h
    refine mcV_v (As := [.int (2 : Int32), .int a1]) (rest := []) (ws := cRR ad_this cy_this z_this_tape z_this_code z_this_sumEnd z_this_testEnd z_this_size z_this_clauses z_this_values) (ws' := cRR ad_this cy_this z_this_tape z_this_code_2 z_this_sumEnd z_this_testEnd z_this_size_3 z_this_clauses z_this_values) S hK hP hD hS hA (c6_emit hc4) (gdV mw_24_0 mw_24_1 mw_24_2 mw_2_1 mw_24_3) rfl rfl hd_f6_emit ⟨Nat.le_of_ble_eq_true rfl, Nat.le_of_ble_eq_true rfl⟩ (ci := 6) (q0 := 0) rfl rfl rfl hl.1 rfl (Nat.le_of_ble_eq_true rfl) dX6_emitWaiting_8 (fun H locs hP hD hS => ?_)
    obtain ⟨e_0, e_1⟩ := inj2 h
    subst e_0
    subst e_1
    exact hret _ _ _ _ hP hD hS dX6_emitWaiting_11
/-! LadderLand$RuleReader.readValue()Z  -/
def f6_readValue_J108 (z_this_code_35 : Nat → Int32) (z_this_size_36 : Int32) (z_this_values_37 : Int32) (z_this_tape_kind_38 : Int32) (z_this_tape_sign_39 : Int32) (z_this_tape_fault_40 : Int32) (z_this_tape_start_41 : Int32) (z_this_tape_stop_42 : Int32) (v2_43 : Int32) (t1_44 : Int32) : Option (Int32 × (Nat → Int32) × Int32 × Int32 × Int32 × Int32 × Int32 × Int32 × Int32) :=
bnd2 (f6_emit z_this_code_35 z_this_size_36 t1_44 v2_43) (fun z_this_code_61 z_this_size_62 =>
some ((1 : Int32), z_this_code_61, z_this_size_62, z_this_values_37, z_this_tape_kind_38, z_this_tape_sign_39, z_this_tape_fault_40, z_this_tape_start_41, z_this_tape_stop_42))

def f6_readValue_J59 (z_this_code_49 : Nat → Int32) (z_this_size_50 : Int32) (z_this_values_51 : Int32) (z_this_tape_kind_52 : Int32) (z_this_tape_sign_53 : Int32) (z_this_tape_fault_54 : Int32) (z_this_tape_start_55 : Int32) (z_this_tape_stop_56 : Int32) (t1_57 : Int32) : Option (Int32 × (Nat → Int32) × Int32 × Int32 × Int32 × Int32 × Int32 × Int32 × Int32) :=
bnd2 (f9_refuse z_this_tape_fault_54 z_this_tape_start_55 t1_57) (fun r_58 z_this_tape_fault_59 =>
if r_58 = 0 ∨ r_58 = 1 then some (r_58, z_this_code_49, z_this_size_50, z_this_values_51, z_this_tape_kind_52, z_this_tape_sign_53, z_this_tape_fault_59, z_this_tape_start_55, z_this_tape_stop_56) else none)

def f6_readValue_J40 (z_this_tape_bytes : Nat → Int32) (z_this_tape_length : Int32) (z_this_code_14 : Nat → Int32) (z_this_size_15 : Int32) (z_this_values_16 : Int32) (z_this_tape_kind_17 : Int32) (z_this_tape_sign_18 : Int32) (z_this_tape_fault_19 : Int32) (z_this_tape_start_20 : Int32) (z_this_tape_stop_21 : Int32) (v1_22 : Int32) (t0_23 : Int32) : Option (Int32 × (Nat → Int32) × Int32 × Int32 × Int32 × Int32 × Int32 × Int32 × Int32) :=
if t0_23 = (-1 : Int32) then (if v1_22 = 0 then (f6_readValue_J59 z_this_code_14 z_this_size_15 z_this_values_16 z_this_tape_kind_17 z_this_tape_sign_18 z_this_tape_fault_19 z_this_tape_start_20 z_this_tape_stop_21 (0 : Int32)) else (f6_readValue_J59 z_this_code_14 z_this_size_15 z_this_values_16 z_this_tape_kind_17 z_this_tape_sign_18 z_this_tape_fault_19 z_this_tape_start_20 z_this_tape_stop_21 (1 : Int32))) else (if z_this_values_16 < (60 : Int32) then (lt ((z_this_values_16 + (1 : Int32))) (fun x_28 =>
bnd4 (f9_advance z_this_tape_bytes z_this_tape_length z_this_tape_kind_17 z_this_tape_sign_18 z_this_tape_start_20 z_this_tape_stop_21) (fun z_this_tape_kind_29 z_this_tape_sign_30 z_this_tape_start_31 z_this_tape_stop_32 =>
if v1_22 = 0 then (f6_readValue_J108 z_this_code_14 z_this_size_15 x_28 z_this_tape_kind_29 z_this_tape_sign_30 z_this_tape_fault_19 z_this_tape_start_31 z_this_tape_stop_32 t0_23 (1 : Int32)) else (f6_readValue_J108 z_this_code_14 z_this_size_15 x_28 z_this_tape_kind_29 z_this_tape_sign_30 z_this_tape_fault_19 z_this_tape_start_31 z_this_tape_stop_32 t0_23 (0 : Int32))))) else (bnd2 (f9_refuse z_this_tape_fault_19 z_this_tape_start_20 (3 : Int32)) (fun r_45 z_this_tape_fault_46 =>
if r_45 = 0 ∨ r_45 = 1 then some (r_45, z_this_code_14, z_this_size_15, z_this_values_16, z_this_tape_kind_17, z_this_tape_sign_18, z_this_tape_fault_46, z_this_tape_start_20, z_this_tape_stop_21) else none)))

def f6_readValue_J16 (z_this_tape_bytes : Nat → Int32) (z_this_tape_length : Int32) (z_this_code_2 : Nat → Int32) (z_this_size_3 : Int32) (z_this_values_4 : Int32) (z_this_tape_kind_5 : Int32) (z_this_tape_sign_6 : Int32) (z_this_tape_fault_7 : Int32) (z_this_tape_start_8 : Int32) (z_this_tape_stop_9 : Int32) (t0_10 : Int32) : Option (Int32 × (Nat → Int32) × Int32 × Int32 × Int32 × Int32 × Int32 × Int32 × Int32) :=
if t0_10 = 0 then (bnd1 (f9_wordIn z_this_tape_bytes z_this_tape_kind_5 z_this_tape_start_8 z_this_tape_stop_9 6) (fun r_12 =>
f6_readValue_J40 z_this_tape_bytes z_this_tape_length z_this_code_2 z_this_size_3 z_this_values_4 z_this_tape_kind_5 z_this_tape_sign_6 z_this_tape_fault_7 z_this_tape_start_8 z_this_tape_stop_9 t0_10 r_12)) else (bnd1 (f9_numberAtHand z_this_tape_bytes z_this_tape_start_8 z_this_tape_stop_9) (fun r_24 =>
f6_readValue_J40 z_this_tape_bytes z_this_tape_length z_this_code_2 z_this_size_3 z_this_values_4 z_this_tape_kind_5 z_this_tape_sign_6 z_this_tape_fault_7 z_this_tape_start_8 z_this_tape_stop_9 t0_10 r_24))

def f6_readValue (z_this_code : Nat → Int32) (z_this_size : Int32) (z_this_values : Int32) (z_this_tape_bytes : Nat → Int32) (z_this_tape_length : Int32) (z_this_tape_kind : Int32) (z_this_tape_sign : Int32) (z_this_tape_fault : Int32) (z_this_tape_start : Int32) (z_this_tape_stop : Int32) : Option (Int32 × (Nat → Int32) × Int32 × Int32 × Int32 × Int32 × Int32 × Int32 × Int32) :=
if z_this_tape_kind = (2 : Int32) then (f6_readValue_J16 z_this_tape_bytes z_this_tape_length z_this_code z_this_size z_this_values z_this_tape_kind z_this_tape_sign z_this_tape_fault z_this_tape_start z_this_tape_stop (1 : Int32)) else (f6_readValue_J16 z_this_tape_bytes z_this_tape_length z_this_code z_this_size z_this_values z_this_tape_kind z_this_tape_sign z_this_tape_fault z_this_tape_start z_this_tape_stop (0 : Int32))

abbrev rm_f6_readValue : Room := { frames := 6, cells := 0, slots := 0, locals := 128 }
theorem hd_f6_readValue : yX6_readValue.cls = RX6 ∧ yX6_readValue.cls ≠ "java/lang/invoke/MethodHandle" ∧ yX6_readValue.cls ≠ "java/lang/invoke/VarHandle" ∧ (parseMethodDescriptor yX6_readValue.desc).map (fun d => d.parameters.length) = some 0 := by decide +kernel
set_option maxHeartbeats 4000000 in
set_option maxRecDepth 100000 in
theorem c6_readValue {l : Launch} {D : va_G} {adK : Nat → Nat} {adV : Nat → Nat} {ad_this : Nat → Nat} {cy_this : Nat → ClassId} {z_this_code : Nat → Int32} {z_this_sumEnd : Nat → Int32} {z_this_testEnd : Nat → Int32} {z_this_size : Int32} {z_this_clauses : Int32} {z_this_values : Int32} {ad_this_tape : Nat → Nat} {cy_this_tape : Nat → ClassId} {z_this_tape_bytes : Nat → Int32} {z_this_tape_length : Int32} {z_this_tape_kind : Int32} {z_this_tape_sign : Int32} {z_this_tape_fault : Int32} {z_this_tape_start : Int32} {z_this_tape_stop : Int32} {o_ret : Int32} {o_this_code : Nat → Int32} {o_this_size : Int32} {o_this_values : Int32} {o_this_tape_kind : Int32} {o_this_tape_sign : Int32} {o_this_tape_fault : Int32} {o_this_tape_start : Int32} {o_this_tape_stop : Int32} (h : f6_readValue z_this_code z_this_size z_this_values z_this_tape_bytes z_this_tape_length z_this_tape_kind z_this_tape_sign z_this_tape_fault z_this_tape_start z_this_tape_stop = some (o_ret, o_this_code, o_this_size, o_this_values, o_this_tape_kind, o_this_tape_sign, o_this_tape_fault, o_this_tape_start, o_this_tape_stop)) : MetIE l yX6_readValue cX6_readValue 3 (some .boolean) rm_f6_readValue D ([(cy_this 1, .int), (cy_this 2, .int), (cy_this 3, .int), (cy_this_tape 1, .int)]) (cRR ad_this cy_this (ad_this_tape 0) z_this_code z_this_sumEnd z_this_testEnd z_this_size z_this_clauses z_this_values ++ cTp ad_this_tape cy_this_tape z_this_tape_bytes z_this_tape_length z_this_tape_kind z_this_tape_sign z_this_tape_fault z_this_tape_start z_this_tape_stop) (cRR ad_this cy_this (ad_this_tape 0) o_this_code z_this_sumEnd z_this_testEnd o_this_size z_this_clauses o_this_values ++ cTp ad_this_tape cy_this_tape z_this_tape_bytes z_this_tape_length o_this_tape_kind o_this_tape_sign o_this_tape_fault o_this_tape_start o_this_tape_stop) [.ref (ad_this 0)] adK adV o_ret := by
  refine metIE_of (own := RX6) rfl (by decide) (Nat.le_of_ble_eq_true rfl) ?_
  intro p e s m args below meth c A Q ls S hK hA hP hD hS hl hE hret
  obtain ⟨hx, hb, hml, hown, hts⟩ := id S
  replace hl : lv_has ls 3 [(0, .ref (ad_this 0))] := hl
  generalize hH : s.heap = H at hP ⊢
  replace hS : va_S A s.heap H [] := by rw [← hH]; exact hS
  generalize hlo : ([] : List Loc) = locs at hS ⊢
  unfold f6_readValue at h
  have J108 : ∀ (z_this_code_35 : Nat → Int32) (z_this_size_36 : Int32) (z_this_values_37 : Int32) (z_this_tape_kind_38 : Int32) (z_this_tape_sign_39 : Int32) (z_this_tape_fault_40 : Int32) (z_this_tape_start_41 : Int32) (z_this_tape_stop_42 : Int32) (v2_43 : Int32) (t1_44 : Int32) (H : Heap) (locs : List Loc) (ls : Array Slot), f6_readValue_J108 z_this_code_35 z_this_size_36 z_this_values_37 z_this_tape_kind_38 z_this_tape_sign_39 z_this_tape_fault_40 z_this_tape_start_41 z_this_tape_stop_42 v2_43 t1_44 = some (o_ret, o_this_code, o_this_size, o_this_values, o_this_tape_kind, o_this_tape_sign, o_this_tape_fault, o_this_tape_start, o_this_tape_stop) → va_P D vwCl (cRR ad_this cy_this (ad_this_tape 0) z_this_code_35 z_this_sumEnd z_this_testEnd z_this_size_36 z_this_clauses z_this_values_37 ++ cTp ad_this_tape cy_this_tape z_this_tape_bytes z_this_tape_length z_this_tape_kind_38 z_this_tape_sign_39 z_this_tape_fault_40 z_this_tape_start_41 z_this_tape_stop_42) H → va_D A (cRR ad_this cy_this (ad_this_tape 0) z_this_code_35 z_this_sumEnd z_this_testEnd z_this_size_36 z_this_clauses z_this_values_37 ++ cTp ad_this_tape cy_this_tape z_this_tape_bytes z_this_tape_length z_this_tape_kind_38 z_this_tape_sign_39 z_this_tape_fault_40 z_this_tape_start_41 z_this_tape_stop_42) → va_S A s.heap H locs → lv_has ls 3 [(2, .int v2_43)] → W p l e rm_f6_readValue s m args below meth c H locs 0 0 Q (F0 m 108 ls [.int t1_44, .ref (ad_this 0)]) := by
    intro z_this_code_35 z_this_size_36 z_this_values_37 z_this_tape_kind_38 z_this_tape_sign_39 z_this_tape_fault_40 z_this_tape_start_41 z_this_tape_stop_42 v2_43 t1_44 H locs ls h hP hD hS hl
    unfold f6_readValue_J108 at h
    refine lv_iload_n hx hb dX6_readValue_108 rfl (lv_at hl 0 rfl) ?_
    obtain ⟨z_this_code_61, z_this_size_62, hc63, h⟩ := bnd2_el h
    refine mfV_v (As := [.int t1_44, .int v2_43]) (rest := []) (wc := cRR ad_this cy_this (ad_this_tape 0) z_this_code_35 z_this_sumEnd z_this_testEnd z_this_size_36 z_this_clauses z_this_values_37) (wr := cTp ad_this_tape cy_this_tape z_this_tape_bytes z_this_tape_length z_this_tape_kind_38 z_this_tape_sign_39 z_this_tape_fault_40 z_this_tape_start_41 z_this_tape_stop_42) (wf := cRR ad_this cy_this (ad_this_tape 0) z_this_code_61 z_this_sumEnd z_this_testEnd z_this_size_62 z_this_clauses z_this_values_37 ++ cTp ad_this_tape cy_this_tape z_this_tape_bytes z_this_tape_length z_this_tape_kind_38 z_this_tape_sign_39 z_this_tape_fault_40 z_this_tape_start_41 z_this_tape_stop_42) S hK hP hD hS hA (c6_emit hc63) [0, 1, 2] [0, 1, 2, 3] [4, 5] [2, 3, 4, 5, 0, 1] rfl rfl rfl (by decide) (by decide) (by decide) rfl (by decide) (gdV mw_24_0 mw_24_1 mw_24_2 mw_2_1 mw_24_3) rfl rfl hd_f6_emit ⟨Nat.le_of_ble_eq_true rfl, Nat.le_of_ble_eq_true rfl⟩ (ci := 6) (q0 := 0) rfl rfl rfl hl.1 rfl (Nat.le_of_ble_eq_true rfl) dX6_readValue_109 (fun H locs hP hD hS => ?_)
    refine lv_iconst (v := (1 : Int32)) hx hb dX6_readValue_112 (by decide) ?_
    obtain ⟨e_0, e_1, e_2, e_3, e_4, e_5, e_6, e_7, e_8⟩ := inj9 h
    subst e_0
    subst e_1
    subst e_2
    subst e_3
    subst e_4
    subst e_5
    subst e_6
    subst e_7
    subst e_8
    exact hret _ _ _ _ _ hP hD hS rfl nz1 dX6_readValue_113
  have J59 : ∀ (z_this_code_49 : Nat → Int32) (z_this_size_50 : Int32) (z_this_values_51 : Int32) (z_this_tape_kind_52 : Int32) (z_this_tape_sign_53 : Int32) (z_this_tape_fault_54 : Int32) (z_this_tape_start_55 : Int32) (z_this_tape_stop_56 : Int32) (t1_57 : Int32) (H : Heap) (locs : List Loc) (ls : Array Slot), f6_readValue_J59 z_this_code_49 z_this_size_50 z_this_values_51 z_this_tape_kind_52 z_this_tape_sign_53 z_this_tape_fault_54 z_this_tape_start_55 z_this_tape_stop_56 t1_57 = some (o_ret, o_this_code, o_this_size, o_this_values, o_this_tape_kind, o_this_tape_sign, o_this_tape_fault, o_this_tape_start, o_this_tape_stop) → va_P D vwCl (cRR ad_this cy_this (ad_this_tape 0) z_this_code_49 z_this_sumEnd z_this_testEnd z_this_size_50 z_this_clauses z_this_values_51 ++ cTp ad_this_tape cy_this_tape z_this_tape_bytes z_this_tape_length z_this_tape_kind_52 z_this_tape_sign_53 z_this_tape_fault_54 z_this_tape_start_55 z_this_tape_stop_56) H → va_D A (cRR ad_this cy_this (ad_this_tape 0) z_this_code_49 z_this_sumEnd z_this_testEnd z_this_size_50 z_this_clauses z_this_values_51 ++ cTp ad_this_tape cy_this_tape z_this_tape_bytes z_this_tape_length z_this_tape_kind_52 z_this_tape_sign_53 z_this_tape_fault_54 z_this_tape_start_55 z_this_tape_stop_56) → va_S A s.heap H locs → lv_has ls 3 [] → W p l e rm_f6_readValue s m args below meth c H locs 0 0 Q (F0 m 59 ls [.int t1_57, .ref (ad_this_tape 0)]) := by
    intro z_this_code_49 z_this_size_50 z_this_values_51 z_this_tape_kind_52 z_this_tape_sign_53 z_this_tape_fault_54 z_this_tape_start_55 z_this_tape_stop_56 t1_57 H locs ls h hP hD hS hl
    unfold f6_readValue_J59 at h
    obtain ⟨r_58, z_this_tape_fault_59, hc60, h⟩ := bnd2_el h
    refine mfV_i (As := [.int t1_57]) (rest := []) (wc := cTp ad_this_tape cy_this_tape z_this_tape_bytes z_this_tape_length z_this_tape_kind_52 z_this_tape_sign_53 z_this_tape_fault_54 z_this_tape_start_55 z_this_tape_stop_56) (wr := cRR ad_this cy_this (ad_this_tape 0) z_this_code_49 z_this_sumEnd z_this_testEnd z_this_size_50 z_this_clauses z_this_values_51) (wf := cRR ad_this cy_this (ad_this_tape 0) z_this_code_49 z_this_sumEnd z_this_testEnd z_this_size_50 z_this_clauses z_this_values_51 ++ cTp ad_this_tape cy_this_tape z_this_tape_bytes z_this_tape_length z_this_tape_kind_52 z_this_tape_sign_53 z_this_tape_fault_59 z_this_tape_start_55 z_this_tape_stop_56) S hK hP hD hS hA (c9_refuse hc60) [3] [4, 5] [0, 1, 2, 3] [0, 1, 2, 3, 4, 5] rfl rfl rfl (by decide) (by decide) (by decide) rfl (by decide) (gdV mw_23_11 mw_12_18 mw_12_19 mw_1_17 mw_12_20) rfl rfl hd_f9_refuse ⟨Nat.le_of_ble_eq_true rfl, Nat.le_of_ble_eq_true rfl⟩ (ci := 9) (q0 := 0) rfl rfl rfl hl.1 rfl (Nat.le_of_ble_eq_true rfl) dX6_readValue_59 (fun H locs hP hD hS => ?_)
    obtain ⟨hz, h⟩ := gd_el h
    obtain ⟨e_0, e_1, e_2, e_3, e_4, e_5, e_6, e_7, e_8⟩ := inj9 h
    subst e_0
    subst e_1
    subst e_2
    subst e_3
    subst e_4
    subst e_5
    subst e_6
    subst e_7
    subst e_8
    exact hret _ _ _ _ _ hP hD hS rfl (nzg hz) dX6_readValue_62
  have J40 : ∀ (z_this_code_14 : Nat → Int32) (z_this_size_15 : Int32) (z_this_values_16 : Int32) (z_this_tape_kind_17 : Int32) (z_this_tape_sign_18 : Int32) (z_this_tape_fault_19 : Int32) (z_this_tape_start_20 : Int32) (z_this_tape_stop_21 : Int32) (v1_22 : Int32) (t0_23 : Int32) (H : Heap) (locs : List Loc) (ls : Array Slot), f6_readValue_J40 z_this_tape_bytes z_this_tape_length z_this_code_14 z_this_size_15 z_this_values_16 z_this_tape_kind_17 z_this_tape_sign_18 z_this_tape_fault_19 z_this_tape_start_20 z_this_tape_stop_21 v1_22 t0_23 = some (o_ret, o_this_code, o_this_size, o_this_values, o_this_tape_kind, o_this_tape_sign, o_this_tape_fault, o_this_tape_start, o_this_tape_stop) → va_P D vwCl (cRR ad_this cy_this (ad_this_tape 0) z_this_code_14 z_this_sumEnd z_this_testEnd z_this_size_15 z_this_clauses z_this_values_16 ++ cTp ad_this_tape cy_this_tape z_this_tape_bytes z_this_tape_length z_this_tape_kind_17 z_this_tape_sign_18 z_this_tape_fault_19 z_this_tape_start_20 z_this_tape_stop_21) H → va_D A (cRR ad_this cy_this (ad_this_tape 0) z_this_code_14 z_this_sumEnd z_this_testEnd z_this_size_15 z_this_clauses z_this_values_16 ++ cTp ad_this_tape cy_this_tape z_this_tape_bytes z_this_tape_length z_this_tape_kind_17 z_this_tape_sign_18 z_this_tape_fault_19 z_this_tape_start_20 z_this_tape_stop_21) → va_S A s.heap H locs → lv_has ls 3 [(0, .ref (ad_this 0)), (1, .int v1_22)] → W p l e rm_f6_readValue s m args below meth c H locs 0 0 Q (F0 m 40 ls [.int t0_23]) := by
    intro z_this_code_14 z_this_size_15 z_this_values_16 z_this_tape_kind_17 z_this_tape_sign_18 z_this_tape_fault_19 z_this_tape_start_20 z_this_tape_stop_21 v1_22 t0_23 H locs ls h hP hD hS hl
    unfold f6_readValue_J40 at h
    refine lv_istore_n (lv' := [(2, .int t0_23), (0, .ref (ad_this 0)), (1, .int v1_22)]) hx hb dX6_readValue_40 rfl hl (by decide) rfl (fun ls hl => ?_)
    refine lv_iload_n hx hb dX6_readValue_41 rfl (lv_at hl 0 rfl) ?_
    refine lv_iconst (v := (-1 : Int32)) hx hb dX6_readValue_42 (by decide) ?_
    refine lv_icmp_ne (tgt := 63) hx hb dX6_readValue_43 rfl (fun c26 => ?_) (fun c26 => ?_)
    · replace h := ite_f c26 h
      refine lv_aload_n hx hb dX6_readValue_63 rfl (lv_at hl 1 rfl) ?_
      refine va_get (ci := 6) (v := .int z_this_values_16) (C := RX6) (T := TX6) (N := 7) hx hb hts inlX6 hown hK hP 0 rfl rfl 6 (by decide) (hts _ mw_23_3) (fun _ h9 => h9) rfl dX6_readValue_64 ?_
      refine lv_bipush (v := (60 : Int32)) hx hb dX6_readValue_67 (by decide) ?_
      refine lv_icmp_lt (tgt := 81) hx hb dX6_readValue_69 rfl (fun c27 => ?_) (fun c27 => ?_)
      · replace h := ite_t c27 h
        refine lv_aload_n hx hb dX6_readValue_81 rfl (lv_at hl 1 rfl) ?_
        refine lv_dup hx hb dX6_readValue_82 rfl ?_
        refine va_get (ci := 6) (v := .int z_this_values_16) (C := RX6) (T := TX6) (N := 7) hx hb hts inlX6 hown hK hP 0 rfl rfl 6 (by decide) (hts _ mw_23_3) (fun _ h9 => h9) rfl dX6_readValue_83 ?_
        refine lv_iconst (v := (1 : Int32)) hx hb dX6_readValue_86 (by decide) ?_
        refine lv_iadd hx hb dX6_readValue_87 ?_
        refine lv_topi (fun x_28 ex_28 => ?_)
        replace h := lt_ex ex_28 h
        refine va_put (ci := 6) (v := .int x_28) (ty := .int) (C := RX6) (T := TX6) (N := 7) hx hb hts inlX6 tyX6 tyX6_ok nmX6 hown hK hP hD hS 0 rfl rfl 6 (by decide) (hts _ mw_23_3) (fun _ h9 => h9) rfl (by decide +kernel) rfl rfl (Nat.le_of_ble_eq_true rfl) dX6_readValue_88 (fun H locs hP hD hS => ?_)
        replace hP : va_P D vwCl (cRR ad_this cy_this (ad_this_tape 0) z_this_code_14 z_this_sumEnd z_this_testEnd z_this_size_15 z_this_clauses x_28 ++ cTp ad_this_tape cy_this_tape z_this_tape_bytes z_this_tape_length z_this_tape_kind_17 z_this_tape_sign_18 z_this_tape_fault_19 z_this_tape_start_20 z_this_tape_stop_21) H := hP
        replace hD : va_D A (cRR ad_this cy_this (ad_this_tape 0) z_this_code_14 z_this_sumEnd z_this_testEnd z_this_size_15 z_this_clauses x_28 ++ cTp ad_this_tape cy_this_tape z_this_tape_bytes z_this_tape_length z_this_tape_kind_17 z_this_tape_sign_18 z_this_tape_fault_19 z_this_tape_start_20 z_this_tape_stop_21) := hD
        refine lv_aload_n hx hb dX6_readValue_91 rfl (lv_at hl 1 rfl) ?_
        refine va_get (ci := 6) (v := .ref (ad_this_tape 0)) (C := RX6) (T := TX6) (N := 7) hx hb hts inlX6 hown hK hP 0 rfl rfl 0 (by decide) (hts _ mw_4_14) (fun _ h9 => h9) rfl dX6_readValue_92 ?_
        obtain ⟨z_this_tape_kind_29, z_this_tape_sign_30, z_this_tape_start_31, z_this_tape_stop_32, hc33, h⟩ := bnd4_el h
        refine mfV_v (As := []) (rest := []) (wc := cTp ad_this_tape cy_this_tape z_this_tape_bytes z_this_tape_length z_this_tape_kind_17 z_this_tape_sign_18 z_this_tape_fault_19 z_this_tape_start_20 z_this_tape_stop_21) (wr := cRR ad_this cy_this (ad_this_tape 0) z_this_code_14 z_this_sumEnd z_this_testEnd z_this_size_15 z_this_clauses x_28) (wf := cRR ad_this cy_this (ad_this_tape 0) z_this_code_14 z_this_sumEnd z_this_testEnd z_this_size_15 z_this_clauses x_28 ++ cTp ad_this_tape cy_this_tape z_this_tape_bytes z_this_tape_length z_this_tape_kind_29 z_this_tape_sign_30 z_this_tape_fault_19 z_this_tape_start_31 z_this_tape_stop_32) S hK hP hD hS hA (c9_advance hc33) [3] [4, 5] [0, 1, 2, 3] [0, 1, 2, 3, 4, 5] rfl rfl rfl (by decide) (by decide) (by decide) rfl (by decide) (gdV mw_23_12 mw_10_1 mw_10_2 mw_1_17 mw_10_3) rfl rfl hd_f9_advance ⟨Nat.le_of_ble_eq_true rfl, Nat.le_of_ble_eq_true rfl⟩ (ci := 9) (q0 := 0) rfl rfl rfl hl.1 rfl (Nat.le_of_ble_eq_true rfl) dX6_readValue_95 (fun H locs hP hD hS => ?_)
        refine lv_aload_n hx hb dX6_readValue_98 rfl (lv_at hl 1 rfl) ?_
        refine lv_iload_n hx hb dX6_readValue_99 rfl (lv_at hl 2 rfl) ?_
        refine lv_if_eq (tgt := 107) hx hb dX6_readValue_100 rfl (fun c34 => ?_) (fun c34 => ?_)
        · replace h := ite_t c34 h
          refine lv_iconst (v := (1 : Int32)) hx hb dX6_readValue_107 (by decide) ?_
          exact J108 z_this_code_14 z_this_size_15 x_28 z_this_tape_kind_29 z_this_tape_sign_30 z_this_tape_fault_19 z_this_tape_start_31 z_this_tape_stop_32 t0_23 (1 : Int32) H locs ls h hP hD hS (lv_sub hl [0] rfl)
        · replace h := ite_f c34 h
          refine lv_iconst (v := (0 : Int32)) hx hb dX6_readValue_103 (by decide) ?_
          refine lv_goto (tgt := 108) hx hb dX6_readValue_104 rfl ?_
          exact J108 z_this_code_14 z_this_size_15 x_28 z_this_tape_kind_29 z_this_tape_sign_30 z_this_tape_fault_19 z_this_tape_start_31 z_this_tape_stop_32 t0_23 (0 : Int32) H locs ls h hP hD hS (lv_sub hl [0] rfl)
      · replace h := ite_f c27 h
        refine lv_aload_n hx hb dX6_readValue_72 rfl (lv_at hl 1 rfl) ?_
        refine va_get (ci := 6) (v := .ref (ad_this_tape 0)) (C := RX6) (T := TX6) (N := 7) hx hb hts inlX6 hown hK hP 0 rfl rfl 0 (by decide) (hts _ mw_4_14) (fun _ h9 => h9) rfl dX6_readValue_73 ?_
        refine lv_iconst (v := (3 : Int32)) hx hb dX6_readValue_76 (by decide) ?_
        obtain ⟨r_45, z_this_tape_fault_46, hc47, h⟩ := bnd2_el h
        refine mfV_i (As := [.int (3 : Int32)]) (rest := []) (wc := cTp ad_this_tape cy_this_tape z_this_tape_bytes z_this_tape_length z_this_tape_kind_17 z_this_tape_sign_18 z_this_tape_fault_19 z_this_tape_start_20 z_this_tape_stop_21) (wr := cRR ad_this cy_this (ad_this_tape 0) z_this_code_14 z_this_sumEnd z_this_testEnd z_this_size_15 z_this_clauses z_this_values_16) (wf := cRR ad_this cy_this (ad_this_tape 0) z_this_code_14 z_this_sumEnd z_this_testEnd z_this_size_15 z_this_clauses z_this_values_16 ++ cTp ad_this_tape cy_this_tape z_this_tape_bytes z_this_tape_length z_this_tape_kind_17 z_this_tape_sign_18 z_this_tape_fault_46 z_this_tape_start_20 z_this_tape_stop_21) S hK hP hD hS hA (c9_refuse hc47) [3] [4, 5] [0, 1, 2, 3] [0, 1, 2, 3, 4, 5] rfl rfl rfl (by decide) (by decide) (by decide) rfl (by decide) (gdV mw_23_11 mw_12_18 mw_12_19 mw_1_17 mw_12_20) rfl rfl hd_f9_refuse ⟨Nat.le_of_ble_eq_true rfl, Nat.le_of_ble_eq_true rfl⟩ (ci := 9) (q0 := 0) rfl rfl rfl hl.1 rfl (Nat.le_of_ble_eq_true rfl) dX6_readValue_77 (fun H locs hP hD hS => ?_)
        obtain ⟨hz, h⟩ := gd_el h
        obtain ⟨e_0, e_1, e_2, e_3, e_4, e_5, e_6, e_7, e_8⟩ := inj9 h
        subst e_0
        subst e_1
        subst e_2
        subst e_3
        subst e_4
        subst e_5
        subst e_6
        subst e_7
        subst e_8
        exact hret _ _ _ _ _ hP hD hS rfl (nzg hz) dX6_readValue_80
    · replace h := ite_t c26 h
      refine lv_aload_n hx hb dX6_readValue_46 rfl (lv_at hl 1 rfl) ?_
      refine va_get (ci := 6) (v := .ref (ad_this_tape 0)) (C := RX6) (T := TX6) (N := 7) hx hb hts inlX6 hown hK hP 0 rfl rfl 0 (by decide) (hts _ mw_4_14) (fun _ h9 => h9) rfl dX6_readValue_47 ?_
      refine lv_iload_n hx hb dX6_readValue_50 rfl (lv_at hl 2 rfl) ?_
      refine lv_if_eq (tgt := 58) hx hb dX6_readValue_51 rfl (fun c48 => ?_) (fun c48 => ?_)
      · replace h := ite_t c48 h
        refine lv_iconst (v := (0 : Int32)) hx hb dX6_readValue_58 (by decide) ?_
        exact J59 z_this_code_14 z_this_size_15 z_this_values_16 z_this_tape_kind_17 z_this_tape_sign_18 z_this_tape_fault_19 z_this_tape_start_20 z_this_tape_stop_21 (0 : Int32) H locs ls h hP hD hS (lv_sub hl [] rfl)
      · replace h := ite_f c48 h
        refine lv_iconst (v := (1 : Int32)) hx hb dX6_readValue_54 (by decide) ?_
        refine lv_goto (tgt := 59) hx hb dX6_readValue_55 rfl ?_
        exact J59 z_this_code_14 z_this_size_15 z_this_values_16 z_this_tape_kind_17 z_this_tape_sign_18 z_this_tape_fault_19 z_this_tape_start_20 z_this_tape_stop_21 (1 : Int32) H locs ls h hP hD hS (lv_sub hl [] rfl)
  have J16 : ∀ (z_this_code_2 : Nat → Int32) (z_this_size_3 : Int32) (z_this_values_4 : Int32) (z_this_tape_kind_5 : Int32) (z_this_tape_sign_6 : Int32) (z_this_tape_fault_7 : Int32) (z_this_tape_start_8 : Int32) (z_this_tape_stop_9 : Int32) (t0_10 : Int32) (H : Heap) (locs : List Loc) (ls : Array Slot), f6_readValue_J16 z_this_tape_bytes z_this_tape_length z_this_code_2 z_this_size_3 z_this_values_4 z_this_tape_kind_5 z_this_tape_sign_6 z_this_tape_fault_7 z_this_tape_start_8 z_this_tape_stop_9 t0_10 = some (o_ret, o_this_code, o_this_size, o_this_values, o_this_tape_kind, o_this_tape_sign, o_this_tape_fault, o_this_tape_start, o_this_tape_stop) → va_P D vwCl (cRR ad_this cy_this (ad_this_tape 0) z_this_code_2 z_this_sumEnd z_this_testEnd z_this_size_3 z_this_clauses z_this_values_4 ++ cTp ad_this_tape cy_this_tape z_this_tape_bytes z_this_tape_length z_this_tape_kind_5 z_this_tape_sign_6 z_this_tape_fault_7 z_this_tape_start_8 z_this_tape_stop_9) H → va_D A (cRR ad_this cy_this (ad_this_tape 0) z_this_code_2 z_this_sumEnd z_this_testEnd z_this_size_3 z_this_clauses z_this_values_4 ++ cTp ad_this_tape cy_this_tape z_this_tape_bytes z_this_tape_length z_this_tape_kind_5 z_this_tape_sign_6 z_this_tape_fault_7 z_this_tape_start_8 z_this_tape_stop_9) → va_S A s.heap H locs → lv_has ls 3 [(0, .ref (ad_this 0))] → W p l e rm_f6_readValue s m args below meth c H locs 0 0 Q (F0 m 16 ls [.int t0_10]) := by
    intro z_this_code_2 z_this_size_3 z_this_values_4 z_this_tape_kind_5 z_this_tape_sign_6 z_this_tape_fault_7 z_this_tape_start_8 z_this_tape_stop_9 t0_10 H locs ls h hP hD hS hl
    unfold f6_readValue_J16 at h
    refine lv_istore_n (lv' := [(1, .int t0_10), (0, .ref (ad_this 0))]) hx hb dX6_readValue_16 rfl hl (by decide) rfl (fun ls hl => ?_)
    refine lv_iload_n hx hb dX6_readValue_17 rfl (lv_at hl 0 rfl) ?_
    refine lv_if_eq (tgt := 31) hx hb dX6_readValue_18 rfl (fun c11 => ?_) (fun c11 => ?_)
    · replace h := ite_t c11 h
      refine lv_aload_n hx hb dX6_readValue_31 rfl (lv_at hl 1 rfl) ?_
      refine va_get (ci := 6) (v := .ref (ad_this_tape 0)) (C := RX6) (T := TX6) (N := 7) hx hb hts inlX6 hown hK hP 0 rfl rfl 0 (by decide) (hts _ mw_4_14) (fun _ h9 => h9) rfl dX6_readValue_32 ?_
      refine va_ldcS hx hb hown hE.2.2.2.2.2.2.2.2.2 dX6_readValue_35 ?_
      obtain ⟨r_12, hc13, h⟩ := bnd1_el h
      refine mfV_iE (As := [.ref (adK 6)]) (rest := []) (wc := cTp ad_this_tape cy_this_tape z_this_tape_bytes z_this_tape_length z_this_tape_kind_5 z_this_tape_sign_6 z_this_tape_fault_7 z_this_tape_start_8 z_this_tape_stop_9) (wr := cRR ad_this cy_this (ad_this_tape 0) z_this_code_2 z_this_sumEnd z_this_testEnd z_this_size_3 z_this_clauses z_this_values_4) (wf := cRR ad_this cy_this (ad_this_tape 0) z_this_code_2 z_this_sumEnd z_this_testEnd z_this_size_3 z_this_clauses z_this_values_4 ++ cTp ad_this_tape cy_this_tape z_this_tape_bytes z_this_tape_length z_this_tape_kind_5 z_this_tape_sign_6 z_this_tape_fault_7 z_this_tape_start_8 z_this_tape_stop_9) S hK hP hD hS hA hE (c9_wordIn hc13 (by decide)) [3] [4, 5] [0, 1, 2, 3] [0, 1, 2, 3, 4, 5] rfl rfl rfl (by decide) (by decide) (by decide) rfl (by decide) (gdV mw_23_23 mw_10_13 mw_10_14 mw_1_17 mw_10_15) rfl rfl hd_f9_wordIn ⟨Nat.le_of_ble_eq_true rfl, Nat.le_of_ble_eq_true rfl⟩ (ci := 9) (q0 := 0) rfl rfl rfl hl.1 rfl (Nat.le_of_ble_eq_true rfl) dX6_readValue_37 (fun H locs hP hD hS => ?_)
      exact J40 z_this_code_2 z_this_size_3 z_this_values_4 z_this_tape_kind_5 z_this_tape_sign_6 z_this_tape_fault_7 z_this_tape_start_8 z_this_tape_stop_9 t0_10 r_12 H locs ls h hP hD hS (lv_sub hl [1, 0] rfl)
    · replace h := ite_f c11 h
      refine lv_aload_n hx hb dX6_readValue_21 rfl (lv_at hl 1 rfl) ?_
      refine va_get (ci := 6) (v := .ref (ad_this_tape 0)) (C := RX6) (T := TX6) (N := 7) hx hb hts inlX6 hown hK hP 0 rfl rfl 0 (by decide) (hts _ mw_4_14) (fun _ h9 => h9) rfl dX6_readValue_22 ?_
      obtain ⟨r_24, hc25, h⟩ := bnd1_el h
      refine mfV_i (As := []) (rest := []) (wc := cTp ad_this_tape cy_this_tape z_this_tape_bytes z_this_tape_length z_this_tape_kind_5 z_this_tape_sign_6 z_this_tape_fault_7 z_this_tape_start_8 z_this_tape_stop_9) (wr := cRR ad_this cy_this (ad_this_tape 0) z_this_code_2 z_this_sumEnd z_this_testEnd z_this_size_3 z_this_clauses z_this_values_4) (wf := cRR ad_this cy_this (ad_this_tape 0) z_this_code_2 z_this_sumEnd z_this_testEnd z_this_size_3 z_this_clauses z_this_values_4 ++ cTp ad_this_tape cy_this_tape z_this_tape_bytes z_this_tape_length z_this_tape_kind_5 z_this_tape_sign_6 z_this_tape_fault_7 z_this_tape_start_8 z_this_tape_stop_9) S hK hP hD hS hA (c9_numberAtHand hc25) [3] [4, 5] [0, 1, 2, 3] [0, 1, 2, 3, 4, 5] rfl rfl rfl (by decide) (by decide) (by decide) rfl (by decide) (gdV mw_23_22 mw_13_8 mw_13_9 mw_1_17 mw_13_10) rfl rfl hd_f9_numberAtHand ⟨Nat.le_of_ble_eq_true rfl, Nat.le_of_ble_eq_true rfl⟩ (ci := 9) (q0 := 0) rfl rfl rfl hl.1 rfl (Nat.le_of_ble_eq_true rfl) dX6_readValue_25 (fun H locs hP hD hS => ?_)
      refine lv_goto (tgt := 40) hx hb dX6_readValue_28 rfl ?_
      exact J40 z_this_code_2 z_this_size_3 z_this_values_4 z_this_tape_kind_5 z_this_tape_sign_6 z_this_tape_fault_7 z_this_tape_start_8 z_this_tape_stop_9 t0_10 r_24 H locs ls h hP hD hS (lv_sub hl [1, 0] rfl)
  refine lv_aload_n hx hb dX6_readValue_0 rfl (lv_at hl 0 rfl) ?_
  refine va_get (ci := 6) (v := .ref (ad_this_tape 0)) (C := RX6) (T := TX6) (N := 7) hx hb hts inlX6 hown hK hP 0 rfl rfl 0 (by decide) (hts _ mw_4_14) (fun _ h9 => h9) rfl dX6_readValue_1 ?_
  refine va_get (ci := 9) (v := .int z_this_tape_kind) (C := RX9) (T := TX9) (N := 7) hx hb hts inlX9 hown hK hP 4 rfl rfl 2 (by decide) (hts _ mw_23_4) (fun _ h9 => h9) rfl dX6_readValue_4 ?_
  refine lv_iconst (v := (2 : Int32)) hx hb dX6_readValue_7 (by decide) ?_
  refine lv_icmp_ne (tgt := 15) hx hb dX6_readValue_8 rfl (fun c1 => ?_) (fun c1 => ?_)
  · replace h := ite_f c1 h
    refine lv_iconst (v := (0 : Int32)) hx hb dX6_readValue_15 (by decide) ?_
    exact J16 z_this_code z_this_size z_this_values z_this_tape_kind z_this_tape_sign z_this_tape_fault z_this_tape_start z_this_tape_stop (0 : Int32) H locs ls h hP hD hS (lv_sub hl [0] rfl)
  · replace h := ite_t c1 h
    refine lv_iconst (v := (1 : Int32)) hx hb dX6_readValue_11 (by decide) ?_
    refine lv_goto (tgt := 16) hx hb dX6_readValue_12 rfl ?_
    exact J16 z_this_code z_this_size z_this_values z_this_tape_kind z_this_tape_sign z_this_tape_fault z_this_tape_start z_this_tape_stop (1 : Int32) H locs ls h hP hD hS (lv_sub hl [0] rfl)
/-! LadderLand$RuleReader.readSum()Z  -/
def f6_readSum_J115 (z_this_tape_bytes : Nat → Int32) (z_this_tape_length : Int32) (z_this_code_75 : Nat → Int32) (z_this_size_76 : Int32) (z_this_values_77 : Int32) (z_this_tape_kind_78 : Int32) (z_this_tape_sign_79 : Int32) (z_this_tape_fault_80 : Int32) (z_this_tape_start_81 : Int32) (z_this_tape_stop_82 : Int32) (v1_83 : Int32) (v2_84 : Int32) (v3_85 : Int32) (v4_86 : Int32) : Option (((Nat → Int32) × Int32 × Int32 × Int32 × Int32 × Int32 × Int32 × Int32 × Int32 × Int32) ⊕ ((Int32 × (Nat → Int32) × Int32 × Int32 × Int32 × Int32 × Int32 × Int32 × Int32) ⊕ ((Nat → Int32) × Int32 × Int32 × Int32 × Int32 × Int32 × Int32 × Int32 × Int32))) :=
bnd4 (f9_advance z_this_tape_bytes z_this_tape_length z_this_tape_kind_78 z_this_tape_sign_79 z_this_tape_start_81 z_this_tape_stop_82) (fun z_this_tape_kind_90 z_this_tape_sign_91 z_this_tape_start_92 z_this_tape_stop_93 =>
bnd9 (f6_readValue z_this_code_75 z_this_size_76 z_this_values_77 z_this_tape_bytes z_this_tape_length z_this_tape_kind_90 z_this_tape_sign_91 z_this_tape_fault_80 z_this_tape_start_92 z_this_tape_stop_93) (fun r_95 z_this_code_96 z_this_size_97 z_this_values_98 z_this_tape_kind_99 z_this_tape_sign_100 z_this_tape_fault_101 z_this_tape_start_102 z_this_tape_stop_103 =>
if r_95 = 0 then (some (.inr (.inl ((0 : Int32), z_this_code_96, z_this_size_97, z_this_values_98, z_this_tape_kind_99, z_this_tape_sign_100, z_this_tape_fault_101, z_this_tape_start_102, z_this_tape_stop_103)))) else (if v4_86 = 0 then (lt (v2_84 + (1 : Int32)) (fun v2_107 =>
some (.inl (z_this_code_96, z_this_size_97, z_this_values_98, z_this_tape_kind_99, z_this_tape_sign_100, z_this_tape_fault_101, z_this_tape_start_102, z_this_tape_stop_103, v1_83, v2_107)))) else (bnd2 (f6_emit z_this_code_96 z_this_size_97 (2 : Int32) v3_85) (fun z_this_code_108 z_this_size_109 =>
lt (v2_84 + (1 : Int32)) (fun v2_111 =>
some (.inl (z_this_code_108, z_this_size_109, z_this_values_98, z_this_tape_kind_99, z_this_tape_sign_100, z_this_tape_fault_101, z_this_tape_start_102, z_this_tape_stop_103, v1_83, v2_111))))))))

def f6_readSum_J103 (z_this_tape_bytes : Nat → Int32) (z_this_tape_length : Int32) (z_this_code_56 : Nat → Int32) (z_this_size_57 : Int32) (z_this_values_58 : Int32) (z_this_tape_kind_59 : Int32) (z_this_tape_sign_60 : Int32) (z_this_tape_fault_61 : Int32) (z_this_tape_start_62 : Int32) (z_this_tape_stop_63 : Int32) (v1_64 : Int32) (v2_65 : Int32) (v3_66 : Int32) (v4_67 : Int32) : Option (((Nat → Int32) × Int32 × Int32 × Int32 × Int32 × Int32 × Int32 × Int32 × Int32 × Int32) ⊕ ((Int32 × (Nat → Int32) × Int32 × Int32 × Int32 × Int32 × Int32 × Int32 × Int32) ⊕ ((Nat → Int32) × Int32 × Int32 × Int32 × Int32 × Int32 × Int32 × Int32 × Int32))) :=
if v4_67 = 0 then (bnd2 (f6_emitWaiting z_this_code_56 z_this_size_57 v1_64) (fun z_this_code_87 z_this_size_88 =>
f6_readSum_J115 z_this_tape_bytes z_this_tape_length z_this_code_87 z_this_size_88 z_this_values_58 z_this_tape_kind_59 z_this_tape_sign_60 z_this_tape_fault_61 z_this_tape_start_62 z_this_tape_stop_63 v3_66 v2_65 v3_66 v4_67)) else (f6_readSum_J115 z_this_tape_bytes z_this_tape_length z_this_code_56 z_this_size_57 z_this_values_58 z_this_tape_kind_59 z_this_tape_sign_60 z_this_tape_fault_61 z_this_tape_start_62 z_this_tape_stop_63 v1_64 v2_65 v3_66 v4_67)

def f6_readSum_J69 (z_this_tape_bytes : Nat → Int32) (z_this_tape_length : Int32) (z_this_code_43 : Nat → Int32) (z_this_size_44 : Int32) (z_this_values_45 : Int32) (z_this_tape_kind_46 : Int32) (z_this_tape_sign_47 : Int32) (z_this_tape_fault_48 : Int32) (z_this_tape_start_49 : Int32) (z_this_tape_stop_50 : Int32) (v1_51 : Int32) (v2_52 : Int32) (v3_53 : Int32) (t0_54 : Int32) : Option (((Nat → Int32) × Int32 × Int32 × Int32 × Int32 × Int32 × Int32 × Int32 × Int32 × Int32) ⊕ ((Int32 × (Nat → Int32) × Int32 × Int32 × Int32 × Int32 × Int32 × Int32 × Int32) ⊕ ((Nat → Int32) × Int32 × Int32 × Int32 × Int32 × Int32 × Int32 × Int32 × Int32))) :=
if t0_54 = 0 then (bnd1 (f9_isAt z_this_tape_kind_46 z_this_tape_sign_47 (43 : Int32)) (fun r_68 =>
if r_68 = 0 then (bnd1 (f9_isAt z_this_tape_kind_46 z_this_tape_sign_47 (45 : Int32)) (fun r_71 =>
if r_71 = 0 then (some (.inr (.inr (z_this_code_43, z_this_size_44, z_this_values_45, z_this_tape_kind_46, z_this_tape_sign_47, z_this_tape_fault_48, z_this_tape_start_49, z_this_tape_stop_50, v1_51)))) else (f6_readSum_J103 z_this_tape_bytes z_this_tape_length z_this_code_43 z_this_size_44 z_this_values_45 z_this_tape_kind_46 z_this_tape_sign_47 z_this_tape_fault_48 z_this_tape_start_49 z_this_tape_stop_50 v1_51 v2_52 v3_53 t0_54))) else (f6_readSum_J103 z_this_tape_bytes z_this_tape_length z_this_code_43 z_this_size_44 z_this_values_45 z_this_tape_kind_46 z_this_tape_sign_47 z_this_tape_fault_48 z_this_tape_start_49 z_this_tape_stop_50 v1_51 v2_52 v3_53 t0_54))) else (f6_readSum_J103 z_this_tape_bytes z_this_tape_length z_this_code_43 z_this_size_44 z_this_values_45 z_this_tape_kind_46 z_this_tape_sign_47 z_this_tape_fault_48 z_this_tape_start_49 z_this_tape_stop_50 v1_51 v2_52 v3_53 t0_54)

def f6_readSum_J64 (z_this_tape_bytes : Nat → Int32) (z_this_tape_length : Int32) (z_this_code_26 : Nat → Int32) (z_this_size_27 : Int32) (z_this_values_28 : Int32) (z_this_tape_kind_29 : Int32) (z_this_tape_sign_30 : Int32) (z_this_tape_fault_31 : Int32) (z_this_tape_start_32 : Int32) (z_this_tape_stop_33 : Int32) (v1_34 : Int32) (v2_35 : Int32) (v3_36 : Int32) : Option (((Nat → Int32) × Int32 × Int32 × Int32 × Int32 × Int32 × Int32 × Int32 × Int32 × Int32) ⊕ ((Int32 × (Nat → Int32) × Int32 × Int32 × Int32 × Int32 × Int32 × Int32 × Int32) ⊕ ((Nat → Int32) × Int32 × Int32 × Int32 × Int32 × Int32 × Int32 × Int32 × Int32))) :=
f6_readSum_J69 z_this_tape_bytes z_this_tape_length z_this_code_26 z_this_size_27 z_this_values_28 z_this_tape_kind_29 z_this_tape_sign_30 z_this_tape_fault_31 z_this_tape_start_32 z_this_tape_stop_33 v1_34 v2_35 v3_36 (1 : Int32)

def f6_readSum_B13 (z_this_tape_bytes : Nat → Int32) (z_this_tape_length : Int32) (z_this_code_12 : Nat → Int32) (z_this_size_13 : Int32) (z_this_values_14 : Int32) (z_this_tape_kind_15 : Int32) (z_this_tape_sign_16 : Int32) (z_this_tape_fault_17 : Int32) (z_this_tape_start_18 : Int32) (z_this_tape_stop_19 : Int32) (v1_20 : Int32) (v2_21 : Int32) : Option (((Nat → Int32) × Int32 × Int32 × Int32 × Int32 × Int32 × Int32 × Int32 × Int32 × Int32) ⊕ ((Int32 × (Nat → Int32) × Int32 × Int32 × Int32 × Int32 × Int32 × Int32 × Int32) ⊕ ((Nat → Int32) × Int32 × Int32 × Int32 × Int32 × Int32 × Int32 × Int32 × Int32))) :=
if (400 : Int32) ≤ v2_21 then (some (.inr (.inr (z_this_code_12, z_this_size_13, z_this_values_14, z_this_tape_kind_15, z_this_tape_sign_16, z_this_tape_fault_17, z_this_tape_start_18, z_this_tape_stop_19, v1_20)))) else (bnd1 (f9_isAt z_this_tape_kind_15 z_this_tape_sign_16 (42 : Int32)) (fun r_23 =>
if r_23 = 0 then (bnd1 (f9_isAt z_this_tape_kind_15 z_this_tape_sign_16 (47 : Int32)) (fun r_37 =>
if r_37 = 0 then (bnd1 (f9_isAt z_this_tape_kind_15 z_this_tape_sign_16 (37 : Int32)) (fun r_40 =>
if r_40 = 0 then (f6_readSum_J69 z_this_tape_bytes z_this_tape_length z_this_code_12 z_this_size_13 z_this_values_14 z_this_tape_kind_15 z_this_tape_sign_16 z_this_tape_fault_17 z_this_tape_start_18 z_this_tape_stop_19 v1_20 v2_21 z_this_tape_sign_16 (0 : Int32)) else (f6_readSum_J64 z_this_tape_bytes z_this_tape_length z_this_code_12 z_this_size_13 z_this_values_14 z_this_tape_kind_15 z_this_tape_sign_16 z_this_tape_fault_17 z_this_tape_start_18 z_this_tape_stop_19 v1_20 v2_21 z_this_tape_sign_16))) else (f6_readSum_J64 z_this_tape_bytes z_this_tape_length z_this_code_12 z_this_size_13 z_this_values_14 z_this_tape_kind_15 z_this_tape_sign_16 z_this_tape_fault_17 z_this_tape_start_18 z_this_tape_stop_19 v1_20 v2_21 z_this_tape_sign_16))) else (f6_readSum_J64 z_this_tape_bytes z_this_tape_length z_this_code_12 z_this_size_13 z_this_values_14 z_this_tape_kind_15 z_this_tape_sign_16 z_this_tape_fault_17 z_this_tape_start_18 z_this_tape_stop_19 v1_20 v2_21 z_this_tape_sign_16)))

def f6_readSum (z_this_code : Nat → Int32) (z_this_size : Int32) (z_this_values : Int32) (z_this_tape_bytes : Nat → Int32) (z_this_tape_length : Int32) (z_this_tape_kind : Int32) (z_this_tape_sign : Int32) (z_this_tape_fault : Int32) (z_this_tape_start : Int32) (z_this_tape_stop : Int32) : Option (Int32 × (Nat → Int32) × Int32 × Int32 × Int32 × Int32 × Int32 × Int32 × Int32) :=
bnd9 (f6_readValue z_this_code z_this_size z_this_values z_this_tape_bytes z_this_tape_length z_this_tape_kind z_this_tape_sign z_this_tape_fault z_this_tape_start z_this_tape_stop) (fun r_1 z_this_code_2 z_this_size_3 z_this_values_4 z_this_tape_kind_5 z_this_tape_sign_6 z_this_tape_fault_7 z_this_tape_start_8 z_this_tape_stop_9 =>
if r_1 = 0 then (some ((0 : Int32), z_this_code_2, z_this_size_3, z_this_values_4, z_this_tape_kind_5, z_this_tape_sign_6, z_this_tape_fault_7, z_this_tape_start_8, z_this_tape_stop_9)) else (bndS9 (iter (fun (z : (Nat → Int32) × Int32 × Int32 × Int32 × Int32 × Int32 × Int32 × Int32 × Int32 × Int32) => f6_readSum_B13 z_this_tape_bytes z_this_tape_length z.1 z.2.1 z.2.2.1 z.2.2.2.1 z.2.2.2.2.1 z.2.2.2.2.2.1 z.2.2.2.2.2.2.1 z.2.2.2.2.2.2.2.1 z.2.2.2.2.2.2.2.2.1 z.2.2.2.2.2.2.2.2.2) FUEL (z_this_code_2, z_this_size_3, z_this_values_4, z_this_tape_kind_5, z_this_tape_sign_6, z_this_tape_fault_7, z_this_tape_start_8, z_this_tape_stop_9, (-1 : Int32), (0 : Int32))) (fun q13 => some q13) (fun z_this_code_112 z_this_size_113 z_this_values_114 z_this_tape_kind_115 z_this_tape_sign_116 z_this_tape_fault_117 z_this_tape_start_118 z_this_tape_stop_119 v1_120 =>
bnd2 (f6_emitWaiting z_this_code_112 z_this_size_113 v1_120) (fun z_this_code_121 z_this_size_122 =>
some ((1 : Int32), z_this_code_121, z_this_size_122, z_this_values_114, z_this_tape_kind_115, z_this_tape_sign_116, z_this_tape_fault_117, z_this_tape_start_118, z_this_tape_stop_119)))))

abbrev rm_f6_readSum : Room := { frames := 7, cells := 0, slots := 0, locals := 150 }
theorem hd_f6_readSum : yX6_readSum.cls = RX6 ∧ yX6_readSum.cls ≠ "java/lang/invoke/MethodHandle" ∧ yX6_readSum.cls ≠ "java/lang/invoke/VarHandle" ∧ (parseMethodDescriptor yX6_readSum.desc).map (fun d => d.parameters.length) = some 0 := by decide +kernel
set_option maxHeartbeats 4000000 in
set_option maxRecDepth 100000 in
theorem c6_readSum {l : Launch} {D : va_G} {adK : Nat → Nat} {adV : Nat → Nat} {ad_this : Nat → Nat} {cy_this : Nat → ClassId} {z_this_code : Nat → Int32} {z_this_sumEnd : Nat → Int32} {z_this_testEnd : Nat → Int32} {z_this_size : Int32} {z_this_clauses : Int32} {z_this_values : Int32} {ad_this_tape : Nat → Nat} {cy_this_tape : Nat → ClassId} {z_this_tape_bytes : Nat → Int32} {z_this_tape_length : Int32} {z_this_tape_kind : Int32} {z_this_tape_sign : Int32} {z_this_tape_fault : Int32} {z_this_tape_start : Int32} {z_this_tape_stop : Int32} {o_ret : Int32} {o_this_code : Nat → Int32} {o_this_size : Int32} {o_this_values : Int32} {o_this_tape_kind : Int32} {o_this_tape_sign : Int32} {o_this_tape_fault : Int32} {o_this_tape_start : Int32} {o_this_tape_stop : Int32} (h : f6_readSum z_this_code z_this_size z_this_values z_this_tape_bytes z_this_tape_length z_this_tape_kind z_this_tape_sign z_this_tape_fault z_this_tape_start z_this_tape_stop = some (o_ret, o_this_code, o_this_size, o_this_values, o_this_tape_kind, o_this_tape_sign, o_this_tape_fault, o_this_tape_start, o_this_tape_stop)) : MetIE l yX6_readSum cX6_readSum 5 (some .boolean) rm_f6_readSum D ([(cy_this 1, .int), (cy_this 2, .int), (cy_this 3, .int), (cy_this_tape 1, .int)]) (cRR ad_this cy_this (ad_this_tape 0) z_this_code z_this_sumEnd z_this_testEnd z_this_size z_this_clauses z_this_values ++ cTp ad_this_tape cy_this_tape z_this_tape_bytes z_this_tape_length z_this_tape_kind z_this_tape_sign z_this_tape_fault z_this_tape_start z_this_tape_stop) (cRR ad_this cy_this (ad_this_tape 0) o_this_code z_this_sumEnd z_this_testEnd o_this_size z_this_clauses o_this_values ++ cTp ad_this_tape cy_this_tape z_this_tape_bytes z_this_tape_length o_this_tape_kind o_this_tape_sign o_this_tape_fault o_this_tape_start o_this_tape_stop) [.ref (ad_this 0)] adK adV o_ret := by
  refine metIE_of (own := RX6) rfl (by decide) (Nat.le_of_ble_eq_true rfl) ?_
  intro p e s m args below meth c A Q ls S hK hA hP hD hS hl hE hret
  obtain ⟨hx, hb, hml, hown, hts⟩ := id S
  replace hl : lv_has ls 5 [(0, .ref (ad_this 0))] := hl
  generalize hH : s.heap = H at hP ⊢
  replace hS : va_S A s.heap H [] := by rw [← hH]; exact hS
  generalize hlo : ([] : List Loc) = locs at hS ⊢
  unfold f6_readSum at h
  refine lv_aload_n hx hb dX6_readSum_0 rfl (lv_at hl 0 rfl) ?_
  obtain ⟨r_1, z_this_code_2, z_this_size_3, z_this_values_4, z_this_tape_kind_5, z_this_tape_sign_6, z_this_tape_fault_7, z_this_tape_start_8, z_this_tape_stop_9, hc10, h⟩ := bnd9_el h
  refine mfV_iE (As := []) (rest := []) (wc := cRR ad_this cy_this (ad_this_tape 0) z_this_code z_this_sumEnd z_this_testEnd z_this_size z_this_clauses z_this_values ++ cTp ad_this_tape cy_this_tape z_this_tape_bytes z_this_tape_length z_this_tape_kind z_this_tape_sign z_this_tape_fault z_this_tape_start z_this_tape_stop) (wr := []) (wf := cRR ad_this cy_this (ad_this_tape 0) z_this_code_2 z_this_sumEnd z_this_testEnd z_this_size_3 z_this_clauses z_this_values_4 ++ cTp ad_this_tape cy_this_tape z_this_tape_bytes z_this_tape_length z_this_tape_kind_5 z_this_tape_sign_6 z_this_tape_fault_7 z_this_tape_start_8 z_this_tape_stop_9) S hK hP hD hS hA hE (c6_readValue hc10) [0, 1, 2, 3] [0, 1, 2, 3, 4, 5] [] [0, 1, 2, 3, 4, 5] rfl rfl rfl (by decide) (by decide) (by decide) rfl (by decide) (gdV mw_23_18 mw_23_19 mw_23_20 mw_2_1 mw_23_21) rfl rfl hd_f6_readValue ⟨Nat.le_of_ble_eq_true rfl, Nat.le_of_ble_eq_true rfl⟩ (ci := 6) (q0 := 0) rfl rfl rfl hl.1 rfl (Nat.le_of_ble_eq_true rfl) dX6_readSum_1 (fun H locs hP hD hS => ?_)
  refine lv_if_ne (tgt := 9) hx hb dX6_readSum_4 rfl (fun c11 => ?_) (fun c11 => ?_)
  · replace h := ite_f c11 h
    refine lv_iconst (v := (-1 : Int32)) hx hb dX6_readSum_9 (by decide) ?_
    refine lv_istore_n (lv' := [(1, .int (-1 : Int32)), (0, .ref (ad_this 0))]) hx hb dX6_readSum_10 rfl hl (by decide) rfl (fun ls hl => ?_)
    refine lv_iconst (v := (0 : Int32)) hx hb dX6_readSum_11 (by decide) ?_
    refine lv_istore_n (lv' := [(2, .int (0 : Int32)), (1, .int (-1 : Int32)), (0, .ref (ad_this 0))]) hx hb dX6_readSum_12 rfl hl (by decide) rfl (fun ls hl => ?_)
    have B13 : ∀ (z_this_code_12 : Nat → Int32) (z_this_size_13 : Int32) (z_this_values_14 : Int32) (z_this_tape_kind_15 : Int32) (z_this_tape_sign_16 : Int32) (z_this_tape_fault_17 : Int32) (z_this_tape_start_18 : Int32) (z_this_tape_stop_19 : Int32) (v1_20 : Int32) (v2_21 : Int32) (r : ((Nat → Int32) × Int32 × Int32 × Int32 × Int32 × Int32 × Int32 × Int32 × Int32 × Int32) ⊕ ((Int32 × (Nat → Int32) × Int32 × Int32 × Int32 × Int32 × Int32 × Int32 × Int32) ⊕ ((Nat → Int32) × Int32 × Int32 × Int32 × Int32 × Int32 × Int32 × Int32 × Int32))) (H : Heap) (locs : List Loc) (ls : Array Slot), f6_readSum_B13 z_this_tape_bytes z_this_tape_length z_this_code_12 z_this_size_13 z_this_values_14 z_this_tape_kind_15 z_this_tape_sign_16 z_this_tape_fault_17 z_this_tape_start_18 z_this_tape_stop_19 v1_20 v2_21 = some r → va_P D vwCl (cRR ad_this cy_this (ad_this_tape 0) z_this_code_12 z_this_sumEnd z_this_testEnd z_this_size_13 z_this_clauses z_this_values_14 ++ cTp ad_this_tape cy_this_tape z_this_tape_bytes z_this_tape_length z_this_tape_kind_15 z_this_tape_sign_16 z_this_tape_fault_17 z_this_tape_start_18 z_this_tape_stop_19) H → va_D A (cRR ad_this cy_this (ad_this_tape 0) z_this_code_12 z_this_sumEnd z_this_testEnd z_this_size_13 z_this_clauses z_this_values_14 ++ cTp ad_this_tape cy_this_tape z_this_tape_bytes z_this_tape_length z_this_tape_kind_15 z_this_tape_sign_16 z_this_tape_fault_17 z_this_tape_start_18 z_this_tape_stop_19) → va_S A s.heap H locs → lv_has ls 5 [(0, .ref (ad_this 0)), (1, .int v1_20), (2, .int v2_21)] → (∀ (z_this_code_12 : Nat → Int32) (z_this_size_13 : Int32) (z_this_values_14 : Int32) (z_this_tape_kind_15 : Int32) (z_this_tape_sign_16 : Int32) (z_this_tape_fault_17 : Int32) (z_this_tape_start_18 : Int32) (z_this_tape_stop_19 : Int32) (v1_20 : Int32) (v2_21 : Int32), r = .inl (z_this_code_12, z_this_size_13, z_this_values_14, z_this_tape_kind_15, z_this_tape_sign_16, z_this_tape_fault_17, z_this_tape_start_18, z_this_tape_stop_19, v1_20, v2_21) → ∀ (H : Heap) (locs : List Loc) (ls : Array Slot), va_P D vwCl (cRR ad_this cy_this (ad_this_tape 0) z_this_code_12 z_this_sumEnd z_this_testEnd z_this_size_13 z_this_clauses z_this_values_14 ++ cTp ad_this_tape cy_this_tape z_this_tape_bytes z_this_tape_length z_this_tape_kind_15 z_this_tape_sign_16 z_this_tape_fault_17 z_this_tape_start_18 z_this_tape_stop_19) H → va_D A (cRR ad_this cy_this (ad_this_tape 0) z_this_code_12 z_this_sumEnd z_this_testEnd z_this_size_13 z_this_clauses z_this_values_14 ++ cTp ad_this_tape cy_this_tape z_this_tape_bytes z_this_tape_length z_this_tape_kind_15 z_this_tape_sign_16 z_this_tape_fault_17 z_this_tape_start_18 z_this_tape_stop_19) → va_S A s.heap H locs → lv_has ls 5 [(0, .ref (ad_this 0)), (1, .int v1_20), (2, .int v2_21)] → W p l e rm_f6_readSum s m args below meth c H locs 0 0 Q (F0 m 13 ls [])) → (∀ (z_this_code_112 : Nat → Int32) (z_this_size_113 : Int32) (z_this_values_114 : Int32) (z_this_tape_kind_115 : Int32) (z_this_tape_sign_116 : Int32) (z_this_tape_fault_117 : Int32) (z_this_tape_start_118 : Int32) (z_this_tape_stop_119 : Int32) (v1_120 : Int32), r = .inr (.inr (z_this_code_112, z_this_size_113, z_this_values_114, z_this_tape_kind_115, z_this_tape_sign_116, z_this_tape_fault_117, z_this_tape_start_118, z_this_tape_stop_119, v1_120)) → ∀ (H : Heap) (locs : List Loc) (ls : Array Slot), va_P D vwCl (cRR ad_this cy_this (ad_this_tape 0) z_this_code_112 z_this_sumEnd z_this_testEnd z_this_size_113 z_this_clauses z_this_values_114 ++ cTp ad_this_tape cy_this_tape z_this_tape_bytes z_this_tape_length z_this_tape_kind_115 z_this_tape_sign_116 z_this_tape_fault_117 z_this_tape_start_118 z_this_tape_stop_119) H → va_D A (cRR ad_this cy_this (ad_this_tape 0) z_this_code_112 z_this_sumEnd z_this_testEnd z_this_size_113 z_this_clauses z_this_values_114 ++ cTp ad_this_tape cy_this_tape z_this_tape_bytes z_this_tape_length z_this_tape_kind_115 z_this_tape_sign_116 z_this_tape_fault_117 z_this_tape_start_118 z_this_tape_stop_119) → va_S A s.heap H locs → lv_has ls 5 [(0, .ref (ad_this 0)), (1, .int v1_120)] → W p l e rm_f6_readSum s m args below meth c H locs 0 0 Q (F0 m 148 ls [])) → (∀ q, r = .inr (.inl q) → q = (o_ret, o_this_code, o_this_size, o_this_values, o_this_tape_kind, o_this_tape_sign, o_this_tape_fault, o_this_tape_start, o_this_tape_stop)) → W p l e rm_f6_readSum s m args below meth c H locs 0 0 Q (F0 m 13 ls []) := by
      intro z_this_code_12 z_this_size_13 z_this_values_14 z_this_tape_kind_15 z_this_tape_sign_16 z_this_tape_fault_17 z_this_tape_start_18 z_this_tape_stop_19 v1_20 v2_21 r H locs ls h hP hD hS hl kl kx kr
      unfold f6_readSum_B13 at h
      have J115 : ∀ (z_this_code_75 : Nat → Int32) (z_this_size_76 : Int32) (z_this_values_77 : Int32) (z_this_tape_kind_78 : Int32) (z_this_tape_sign_79 : Int32) (z_this_tape_fault_80 : Int32) (z_this_tape_start_81 : Int32) (z_this_tape_stop_82 : Int32) (v1_83 : Int32) (v2_84 : Int32) (v3_85 : Int32) (v4_86 : Int32) (H : Heap) (locs : List Loc) (ls : Array Slot), f6_readSum_J115 z_this_tape_bytes z_this_tape_length z_this_code_75 z_this_size_76 z_this_values_77 z_this_tape_kind_78 z_this_tape_sign_79 z_this_tape_fault_80 z_this_tape_start_81 z_this_tape_stop_82 v1_83 v2_84 v3_85 v4_86 = some r → va_P D vwCl (cRR ad_this cy_this (ad_this_tape 0) z_this_code_75 z_this_sumEnd z_this_testEnd z_this_size_76 z_this_clauses z_this_values_77 ++ cTp ad_this_tape cy_this_tape z_this_tape_bytes z_this_tape_length z_this_tape_kind_78 z_this_tape_sign_79 z_this_tape_fault_80 z_this_tape_start_81 z_this_tape_stop_82) H → va_D A (cRR ad_this cy_this (ad_this_tape 0) z_this_code_75 z_this_sumEnd z_this_testEnd z_this_size_76 z_this_clauses z_this_values_77 ++ cTp ad_this_tape cy_this_tape z_this_tape_bytes z_this_tape_length z_this_tape_kind_78 z_this_tape_sign_79 z_this_tape_fault_80 z_this_tape_start_81 z_this_tape_stop_82) → va_S A s.heap H locs → lv_has ls 5 [(0, .ref (ad_this 0)), (1, .int v1_83), (2, .int v2_84), (3, .int v3_85), (4, .int v4_86)] → W p l e rm_f6_readSum s m args below meth c H locs 0 0 Q (F0 m 115 ls []) := by
        intro z_this_code_75 z_this_size_76 z_this_values_77 z_this_tape_kind_78 z_this_tape_sign_79 z_this_tape_fault_80 z_this_tape_start_81 z_this_tape_stop_82 v1_83 v2_84 v3_85 v4_86 H locs ls h hP hD hS hl
        unfold f6_readSum_J115 at h
        refine lv_aload_n hx hb dX6_readSum_115 rfl (lv_at hl 0 rfl) ?_
        refine va_get (ci := 6) (v := .ref (ad_this_tape 0)) (C := RX6) (T := TX6) (N := 7) hx hb hts inlX6 hown hK hP 0 rfl rfl 0 (by decide) (hts _ mw_4_14) (fun _ h9 => h9) rfl dX6_readSum_116 ?_
        obtain ⟨z_this_tape_kind_90, z_this_tape_sign_91, z_this_tape_start_92, z_this_tape_stop_93, hc94, h⟩ := bnd4_el h
        refine mfV_v (As := []) (rest := []) (wc := cTp ad_this_tape cy_this_tape z_this_tape_bytes z_this_tape_length z_this_tape_kind_78 z_this_tape_sign_79 z_this_tape_fault_80 z_this_tape_start_81 z_this_tape_stop_82) (wr := cRR ad_this cy_this (ad_this_tape 0) z_this_code_75 z_this_sumEnd z_this_testEnd z_this_size_76 z_this_clauses z_this_values_77) (wf := cRR ad_this cy_this (ad_this_tape 0) z_this_code_75 z_this_sumEnd z_this_testEnd z_this_size_76 z_this_clauses z_this_values_77 ++ cTp ad_this_tape cy_this_tape z_this_tape_bytes z_this_tape_length z_this_tape_kind_90 z_this_tape_sign_91 z_this_tape_fault_80 z_this_tape_start_92 z_this_tape_stop_93) S hK hP hD hS hA (c9_advance hc94) [3] [4, 5] [0, 1, 2, 3] [0, 1, 2, 3, 4, 5] rfl rfl rfl (by decide) (by decide) (by decide) rfl (by decide) (gdV mw_23_12 mw_10_1 mw_10_2 mw_1_17 mw_10_3) rfl rfl hd_f9_advance ⟨Nat.le_of_ble_eq_true rfl, Nat.le_of_ble_eq_true rfl⟩ (ci := 9) (q0 := 0) rfl rfl rfl hl.1 rfl (Nat.le_of_ble_eq_true rfl) dX6_readSum_119 (fun H locs hP hD hS => ?_)
        refine lv_aload_n hx hb dX6_readSum_122 rfl (lv_at hl 0 rfl) ?_
        obtain ⟨r_95, z_this_code_96, z_this_size_97, z_this_values_98, z_this_tape_kind_99, z_this_tape_sign_100, z_this_tape_fault_101, z_this_tape_start_102, z_this_tape_stop_103, hc104, h⟩ := bnd9_el h
        refine mfV_iE (As := []) (rest := []) (wc := cRR ad_this cy_this (ad_this_tape 0) z_this_code_75 z_this_sumEnd z_this_testEnd z_this_size_76 z_this_clauses z_this_values_77 ++ cTp ad_this_tape cy_this_tape z_this_tape_bytes z_this_tape_length z_this_tape_kind_90 z_this_tape_sign_91 z_this_tape_fault_80 z_this_tape_start_92 z_this_tape_stop_93) (wr := []) (wf := cRR ad_this cy_this (ad_this_tape 0) z_this_code_96 z_this_sumEnd z_this_testEnd z_this_size_97 z_this_clauses z_this_values_98 ++ cTp ad_this_tape cy_this_tape z_this_tape_bytes z_this_tape_length z_this_tape_kind_99 z_this_tape_sign_100 z_this_tape_fault_101 z_this_tape_start_102 z_this_tape_stop_103) S hK hP hD hS hA hE (c6_readValue hc104) [0, 1, 2, 3] [0, 1, 2, 3, 4, 5] [] [0, 1, 2, 3, 4, 5] rfl rfl rfl (by decide) (by decide) (by decide) rfl (by decide) (gdV mw_23_18 mw_23_19 mw_23_20 mw_2_1 mw_23_21) rfl rfl hd_f6_readValue ⟨Nat.le_of_ble_eq_true rfl, Nat.le_of_ble_eq_true rfl⟩ (ci := 6) (q0 := 0) rfl rfl rfl hl.1 rfl (Nat.le_of_ble_eq_true rfl) dX6_readSum_123 (fun H locs hP hD hS => ?_)
        refine lv_if_ne (tgt := 131) hx hb dX6_readSum_126 rfl (fun c105 => ?_) (fun c105 => ?_)
        · replace h := ite_f c105 h
          refine lv_iload hx hb dX6_readSum_131 (lv_at hl 4 rfl) ?_
          refine lv_if_eq (tgt := 142) hx hb dX6_readSum_133 rfl (fun c106 => ?_) (fun c106 => ?_)
          · replace h := ite_t c106 h
            obtain ⟨v2_107, ev2_107, h⟩ := lt_el h
            refine lv_iinc (v := v2_107) (lv' := [(2, .int v2_107), (0, .ref (ad_this 0)), (1, .int v1_83), (3, .int v3_85), (4, .int v4_86)]) hx hb dX6_readSum_142 hl (k := 2) rfl (by rw [ev2_107]; rfl) (by decide) rfl (fun ls hl => ?_)
            refine lv_goto (tgt := 13) hx hb dX6_readSum_145 rfl ?_
            cases h
            exact kl _ _ _ _ _ _ _ _ _ _ rfl H locs ls hP hD hS (lv_sub hl [1, 2, 0] rfl)
          · replace h := ite_f c106 h
            refine lv_aload_n hx hb dX6_readSum_136 rfl (lv_at hl 0 rfl) ?_
            refine lv_iconst (v := (2 : Int32)) hx hb dX6_readSum_137 (by decide) ?_
            refine lv_iload_n hx hb dX6_readSum_138 rfl (lv_at hl 3 rfl) ?_
            obtain ⟨z_this_code_108, z_this_size_109, hc110, h⟩ := bnd2_el h
            refine mfV_v (As := [.int (2 : Int32), .int v3_85]) (rest := []) (wc := cRR ad_this cy_this (ad_this_tape 0) z_this_code_96 z_this_sumEnd z_this_testEnd z_this_size_97 z_this_clauses z_this_values_98) (wr := cTp ad_this_tape cy_this_tape z_this_tape_bytes z_this_tape_length z_this_tape_kind_99 z_this_tape_sign_100 z_this_tape_fault_101 z_this_tape_start_102 z_this_tape_stop_103) (wf := cRR ad_this cy_this (ad_this_tape 0) z_this_code_108 z_this_sumEnd z_this_testEnd z_this_size_109 z_this_clauses z_this_values_98 ++ cTp ad_this_tape cy_this_tape z_this_tape_bytes z_this_tape_length z_this_tape_kind_99 z_this_tape_sign_100 z_this_tape_fault_101 z_this_tape_start_102 z_this_tape_stop_103) S hK hP hD hS hA (c6_emit hc110) [0, 1, 2] [0, 1, 2, 3] [4, 5] [2, 3, 4, 5, 0, 1] rfl rfl rfl (by decide) (by decide) (by decide) rfl (by decide) (gdV mw_24_0 mw_24_1 mw_24_2 mw_2_1 mw_24_3) rfl rfl hd_f6_emit ⟨Nat.le_of_ble_eq_true rfl, Nat.le_of_ble_eq_true rfl⟩ (ci := 6) (q0 := 0) rfl rfl rfl hl.1 rfl (Nat.le_of_ble_eq_true rfl) dX6_readSum_139 (fun H locs hP hD hS => ?_)
            obtain ⟨v2_111, ev2_111, h⟩ := lt_el h
            refine lv_iinc (v := v2_111) (lv' := [(2, .int v2_111), (0, .ref (ad_this 0)), (1, .int v1_83), (3, .int v3_85), (4, .int v4_86)]) hx hb dX6_readSum_142 hl (k := 2) rfl (by rw [ev2_111]; rfl) (by decide) rfl (fun ls hl => ?_)
            refine lv_goto (tgt := 13) hx hb dX6_readSum_145 rfl ?_
            cases h
            exact kl _ _ _ _ _ _ _ _ _ _ rfl H locs ls hP hD hS (lv_sub hl [1, 2, 0] rfl)
        · replace h := ite_t c105 h
          refine lv_iconst (v := (0 : Int32)) hx hb dX6_readSum_129 (by decide) ?_
          cases h
          obtain ⟨e_0, e_1, e_2, e_3, e_4, e_5, e_6, e_7, e_8⟩ := jnj9 (kr _ rfl)
          subst e_0
          subst e_1
          subst e_2
          subst e_3
          subst e_4
          subst e_5
          subst e_6
          subst e_7
          subst e_8
          exact hret _ _ _ _ _ hP hD hS rfl nz0 dX6_readSum_130
      have J103 : ∀ (z_this_code_56 : Nat → Int32) (z_this_size_57 : Int32) (z_this_values_58 : Int32) (z_this_tape_kind_59 : Int32) (z_this_tape_sign_60 : Int32) (z_this_tape_fault_61 : Int32) (z_this_tape_start_62 : Int32) (z_this_tape_stop_63 : Int32) (v1_64 : Int32) (v2_65 : Int32) (v3_66 : Int32) (v4_67 : Int32) (H : Heap) (locs : List Loc) (ls : Array Slot), f6_readSum_J103 z_this_tape_bytes z_this_tape_length z_this_code_56 z_this_size_57 z_this_values_58 z_this_tape_kind_59 z_this_tape_sign_60 z_this_tape_fault_61 z_this_tape_start_62 z_this_tape_stop_63 v1_64 v2_65 v3_66 v4_67 = some r → va_P D vwCl (cRR ad_this cy_this (ad_this_tape 0) z_this_code_56 z_this_sumEnd z_this_testEnd z_this_size_57 z_this_clauses z_this_values_58 ++ cTp ad_this_tape cy_this_tape z_this_tape_bytes z_this_tape_length z_this_tape_kind_59 z_this_tape_sign_60 z_this_tape_fault_61 z_this_tape_start_62 z_this_tape_stop_63) H → va_D A (cRR ad_this cy_this (ad_this_tape 0) z_this_code_56 z_this_sumEnd z_this_testEnd z_this_size_57 z_this_clauses z_this_values_58 ++ cTp ad_this_tape cy_this_tape z_this_tape_bytes z_this_tape_length z_this_tape_kind_59 z_this_tape_sign_60 z_this_tape_fault_61 z_this_tape_start_62 z_this_tape_stop_63) → va_S A s.heap H locs → lv_has ls 5 [(0, .ref (ad_this 0)), (1, .int v1_64), (2, .int v2_65), (3, .int v3_66), (4, .int v4_67)] → W p l e rm_f6_readSum s m args below meth c H locs 0 0 Q (F0 m 103 ls []) := by
        intro z_this_code_56 z_this_size_57 z_this_values_58 z_this_tape_kind_59 z_this_tape_sign_60 z_this_tape_fault_61 z_this_tape_start_62 z_this_tape_stop_63 v1_64 v2_65 v3_66 v4_67 H locs ls h hP hD hS hl
        unfold f6_readSum_J103 at h
        refine lv_iload hx hb dX6_readSum_103 (lv_at hl 4 rfl) ?_
        refine lv_if_ne (tgt := 115) hx hb dX6_readSum_105 rfl (fun c74 => ?_) (fun c74 => ?_)
        · replace h := ite_f c74 h
          exact J115 z_this_code_56 z_this_size_57 z_this_values_58 z_this_tape_kind_59 z_this_tape_sign_60 z_this_tape_fault_61 z_this_tape_start_62 z_this_tape_stop_63 v1_64 v2_65 v3_66 v4_67 H locs ls h hP hD hS (lv_sub hl [0, 1, 2, 3, 4] rfl)
        · replace h := ite_t c74 h
          refine lv_aload_n hx hb dX6_readSum_108 rfl (lv_at hl 0 rfl) ?_
          refine lv_iload_n hx hb dX6_readSum_109 rfl (lv_at hl 1 rfl) ?_
          obtain ⟨z_this_code_87, z_this_size_88, hc89, h⟩ := bnd2_el h
          refine mfV_v (As := [.int v1_64]) (rest := []) (wc := cRR ad_this cy_this (ad_this_tape 0) z_this_code_56 z_this_sumEnd z_this_testEnd z_this_size_57 z_this_clauses z_this_values_58) (wr := cTp ad_this_tape cy_this_tape z_this_tape_bytes z_this_tape_length z_this_tape_kind_59 z_this_tape_sign_60 z_this_tape_fault_61 z_this_tape_start_62 z_this_tape_stop_63) (wf := cRR ad_this cy_this (ad_this_tape 0) z_this_code_87 z_this_sumEnd z_this_testEnd z_this_size_88 z_this_clauses z_this_values_58 ++ cTp ad_this_tape cy_this_tape z_this_tape_bytes z_this_tape_length z_this_tape_kind_59 z_this_tape_sign_60 z_this_tape_fault_61 z_this_tape_start_62 z_this_tape_stop_63) S hK hP hD hS hA (c6_emitWaiting hc89) [0, 1, 2] [0, 1, 2, 3] [4, 5] [2, 3, 4, 5, 0, 1] rfl rfl rfl (by decide) (by decide) (by decide) rfl (by decide) (gdV mw_24_5 mw_24_6 mw_24_7 mw_2_1 mw_24_8) rfl rfl hd_f6_emitWaiting ⟨Nat.le_of_ble_eq_true rfl, Nat.le_of_ble_eq_true rfl⟩ (ci := 6) (q0 := 0) rfl rfl rfl hl.1 rfl (Nat.le_of_ble_eq_true rfl) dX6_readSum_110 (fun H locs hP hD hS => ?_)
          refine lv_iload_n hx hb dX6_readSum_113 rfl (lv_at hl 3 rfl) ?_
          refine lv_istore_n (lv' := [(1, .int v3_66), (0, .ref (ad_this 0)), (2, .int v2_65), (3, .int v3_66), (4, .int v4_67)]) hx hb dX6_readSum_114 rfl hl (by decide) rfl (fun ls hl => ?_)
          exact J115 z_this_code_87 z_this_size_88 z_this_values_58 z_this_tape_kind_59 z_this_tape_sign_60 z_this_tape_fault_61 z_this_tape_start_62 z_this_tape_stop_63 v3_66 v2_65 v3_66 v4_67 H locs ls h hP hD hS (lv_sub hl [1, 0, 2, 3, 4] rfl)
      have J69 : ∀ (z_this_code_43 : Nat → Int32) (z_this_size_44 : Int32) (z_this_values_45 : Int32) (z_this_tape_kind_46 : Int32) (z_this_tape_sign_47 : Int32) (z_this_tape_fault_48 : Int32) (z_this_tape_start_49 : Int32) (z_this_tape_stop_50 : Int32) (v1_51 : Int32) (v2_52 : Int32) (v3_53 : Int32) (t0_54 : Int32) (H : Heap) (locs : List Loc) (ls : Array Slot), f6_readSum_J69 z_this_tape_bytes z_this_tape_length z_this_code_43 z_this_size_44 z_this_values_45 z_this_tape_kind_46 z_this_tape_sign_47 z_this_tape_fault_48 z_this_tape_start_49 z_this_tape_stop_50 v1_51 v2_52 v3_53 t0_54 = some r → va_P D vwCl (cRR ad_this cy_this (ad_this_tape 0) z_this_code_43 z_this_sumEnd z_this_testEnd z_this_size_44 z_this_clauses z_this_values_45 ++ cTp ad_this_tape cy_this_tape z_this_tape_bytes z_this_tape_length z_this_tape_kind_46 z_this_tape_sign_47 z_this_tape_fault_48 z_this_tape_start_49 z_this_tape_stop_50) H → va_D A (cRR ad_this cy_this (ad_this_tape 0) z_this_code_43 z_this_sumEnd z_this_testEnd z_this_size_44 z_this_clauses z_this_values_45 ++ cTp ad_this_tape cy_this_tape z_this_tape_bytes z_this_tape_length z_this_tape_kind_46 z_this_tape_sign_47 z_this_tape_fault_48 z_this_tape_start_49 z_this_tape_stop_50) → va_S A s.heap H locs → lv_has ls 5 [(0, .ref (ad_this 0)), (1, .int v1_51), (2, .int v2_52), (3, .int v3_53)] → W p l e rm_f6_readSum s m args below meth c H locs 0 0 Q (F0 m 69 ls [.int t0_54]) := by
        intro z_this_code_43 z_this_size_44 z_this_values_45 z_this_tape_kind_46 z_this_tape_sign_47 z_this_tape_fault_48 z_this_tape_start_49 z_this_tape_stop_50 v1_51 v2_52 v3_53 t0_54 H locs ls h hP hD hS hl
        unfold f6_readSum_J69 at h
        refine lv_istore (lv' := [(4, .int t0_54), (0, .ref (ad_this 0)), (1, .int v1_51), (2, .int v2_52), (3, .int v3_53)]) hx hb dX6_readSum_69 hl (by decide) rfl (fun ls hl => ?_)
        refine lv_iload hx hb dX6_readSum_71 (lv_at hl 0 rfl) ?_
        refine lv_if_ne (tgt := 103) hx hb dX6_readSum_73 rfl (fun c55 => ?_) (fun c55 => ?_)
        · replace h := ite_f c55 h
          exact J103 z_this_code_43 z_this_size_44 z_this_values_45 z_this_tape_kind_46 z_this_tape_sign_47 z_this_tape_fault_48 z_this_tape_start_49 z_this_tape_stop_50 v1_51 v2_52 v3_53 t0_54 H locs ls h hP hD hS (lv_sub hl [1, 2, 3, 4, 0] rfl)
        · replace h := ite_t c55 h
          refine lv_aload_n hx hb dX6_readSum_76 rfl (lv_at hl 1 rfl) ?_
          refine va_get (ci := 6) (v := .ref (ad_this_tape 0)) (C := RX6) (T := TX6) (N := 7) hx hb hts inlX6 hown hK hP 0 rfl rfl 0 (by decide) (hts _ mw_4_14) (fun _ h9 => h9) rfl dX6_readSum_77 ?_
          refine lv_bipush (v := (43 : Int32)) hx hb dX6_readSum_80 (by decide) ?_
          obtain ⟨r_68, hc69, h⟩ := bnd1_el h
          refine mfV_i (As := [.int (43 : Int32)]) (rest := []) (wc := cTp ad_this_tape cy_this_tape z_this_tape_bytes z_this_tape_length z_this_tape_kind_46 z_this_tape_sign_47 z_this_tape_fault_48 z_this_tape_start_49 z_this_tape_stop_50) (wr := cRR ad_this cy_this (ad_this_tape 0) z_this_code_43 z_this_sumEnd z_this_testEnd z_this_size_44 z_this_clauses z_this_values_45) (wf := cRR ad_this cy_this (ad_this_tape 0) z_this_code_43 z_this_sumEnd z_this_testEnd z_this_size_44 z_this_clauses z_this_values_45 ++ cTp ad_this_tape cy_this_tape z_this_tape_bytes z_this_tape_length z_this_tape_kind_46 z_this_tape_sign_47 z_this_tape_fault_48 z_this_tape_start_49 z_this_tape_stop_50) S hK hP hD hS hA (c9_isAt hc69) [3] [4, 5] [0, 1, 2, 3] [0, 1, 2, 3, 4, 5] rfl rfl rfl (by decide) (by decide) (by decide) rfl (by decide) (gdV mw_24_4 mw_14_22 mw_14_23 mw_1_17 mw_15_0) rfl rfl hd_f9_isAt ⟨Nat.le_of_ble_eq_true rfl, Nat.le_of_ble_eq_true rfl⟩ (ci := 9) (q0 := 0) rfl rfl rfl hl.1 rfl (Nat.le_of_ble_eq_true rfl) dX6_readSum_82 (fun H locs hP hD hS => ?_)
          refine lv_if_ne (tgt := 103) hx hb dX6_readSum_85 rfl (fun c70 => ?_) (fun c70 => ?_)
          · replace h := ite_f c70 h
            exact J103 z_this_code_43 z_this_size_44 z_this_values_45 z_this_tape_kind_46 z_this_tape_sign_47 z_this_tape_fault_48 z_this_tape_start_49 z_this_tape_stop_50 v1_51 v2_52 v3_53 t0_54 H locs ls h hP hD hS (lv_sub hl [1, 2, 3, 4, 0] rfl)
          · replace h := ite_t c70 h
            refine lv_aload_n hx hb dX6_readSum_88 rfl (lv_at hl 1 rfl) ?_
            refine va_get (ci := 6) (v := .ref (ad_this_tape 0)) (C := RX6) (T := TX6) (N := 7) hx hb hts inlX6 hown hK hP 0 rfl rfl 0 (by decide) (hts _ mw_4_14) (fun _ h9 => h9) rfl dX6_readSum_89 ?_
            refine lv_bipush (v := (45 : Int32)) hx hb dX6_readSum_92 (by decide) ?_
            obtain ⟨r_71, hc72, h⟩ := bnd1_el h
            refine mfV_i (As := [.int (45 : Int32)]) (rest := []) (wc := cTp ad_this_tape cy_this_tape z_this_tape_bytes z_this_tape_length z_this_tape_kind_46 z_this_tape_sign_47 z_this_tape_fault_48 z_this_tape_start_49 z_this_tape_stop_50) (wr := cRR ad_this cy_this (ad_this_tape 0) z_this_code_43 z_this_sumEnd z_this_testEnd z_this_size_44 z_this_clauses z_this_values_45) (wf := cRR ad_this cy_this (ad_this_tape 0) z_this_code_43 z_this_sumEnd z_this_testEnd z_this_size_44 z_this_clauses z_this_values_45 ++ cTp ad_this_tape cy_this_tape z_this_tape_bytes z_this_tape_length z_this_tape_kind_46 z_this_tape_sign_47 z_this_tape_fault_48 z_this_tape_start_49 z_this_tape_stop_50) S hK hP hD hS hA (c9_isAt hc72) [3] [4, 5] [0, 1, 2, 3] [0, 1, 2, 3, 4, 5] rfl rfl rfl (by decide) (by decide) (by decide) rfl (by decide) (gdV mw_24_4 mw_14_22 mw_14_23 mw_1_17 mw_15_0) rfl rfl hd_f9_isAt ⟨Nat.le_of_ble_eq_true rfl, Nat.le_of_ble_eq_true rfl⟩ (ci := 9) (q0 := 0) rfl rfl rfl hl.1 rfl (Nat.le_of_ble_eq_true rfl) dX6_readSum_94 (fun H locs hP hD hS => ?_)
            refine lv_if_ne (tgt := 103) hx hb dX6_readSum_97 rfl (fun c73 => ?_) (fun c73 => ?_)
            · replace h := ite_f c73 h
              exact J103 z_this_code_43 z_this_size_44 z_this_values_45 z_this_tape_kind_46 z_this_tape_sign_47 z_this_tape_fault_48 z_this_tape_start_49 z_this_tape_stop_50 v1_51 v2_52 v3_53 t0_54 H locs ls h hP hD hS (lv_sub hl [1, 2, 3, 4, 0] rfl)
            · replace h := ite_t c73 h
              refine lv_goto (tgt := 148) hx hb dX6_readSum_100 rfl ?_
              cases h
              exact kx _ _ _ _ _ _ _ _ _ rfl H locs ls hP hD hS (lv_sub hl [1, 2] rfl)
      have J64 : ∀ (z_this_code_26 : Nat → Int32) (z_this_size_27 : Int32) (z_this_values_28 : Int32) (z_this_tape_kind_29 : Int32) (z_this_tape_sign_30 : Int32) (z_this_tape_fault_31 : Int32) (z_this_tape_start_32 : Int32) (z_this_tape_stop_33 : Int32) (v1_34 : Int32) (v2_35 : Int32) (v3_36 : Int32) (H : Heap) (locs : List Loc) (ls : Array Slot), f6_readSum_J64 z_this_tape_bytes z_this_tape_length z_this_code_26 z_this_size_27 z_this_values_28 z_this_tape_kind_29 z_this_tape_sign_30 z_this_tape_fault_31 z_this_tape_start_32 z_this_tape_stop_33 v1_34 v2_35 v3_36 = some r → va_P D vwCl (cRR ad_this cy_this (ad_this_tape 0) z_this_code_26 z_this_sumEnd z_this_testEnd z_this_size_27 z_this_clauses z_this_values_28 ++ cTp ad_this_tape cy_this_tape z_this_tape_bytes z_this_tape_length z_this_tape_kind_29 z_this_tape_sign_30 z_this_tape_fault_31 z_this_tape_start_32 z_this_tape_stop_33) H → va_D A (cRR ad_this cy_this (ad_this_tape 0) z_this_code_26 z_this_sumEnd z_this_testEnd z_this_size_27 z_this_clauses z_this_values_28 ++ cTp ad_this_tape cy_this_tape z_this_tape_bytes z_this_tape_length z_this_tape_kind_29 z_this_tape_sign_30 z_this_tape_fault_31 z_this_tape_start_32 z_this_tape_stop_33) → va_S A s.heap H locs → lv_has ls 5 [(0, .ref (ad_this 0)), (1, .int v1_34), (2, .int v2_35), (3, .int v3_36)] → W p l e rm_f6_readSum s m args below meth c H locs 0 0 Q (F0 m 64 ls []) := by
        intro z_this_code_26 z_this_size_27 z_this_values_28 z_this_tape_kind_29 z_this_tape_sign_30 z_this_tape_fault_31 z_this_tape_start_32 z_this_tape_stop_33 v1_34 v2_35 v3_36 H locs ls h hP hD hS hl
        unfold f6_readSum_J64 at h
        refine lv_iconst (v := (1 : Int32)) hx hb dX6_readSum_64 (by decide) ?_
        refine lv_goto (tgt := 69) hx hb dX6_readSum_65 rfl ?_
        exact J69 z_this_code_26 z_this_size_27 z_this_values_28 z_this_tape_kind_29 z_this_tape_sign_30 z_this_tape_fault_31 z_this_tape_start_32 z_this_tape_stop_33 v1_34 v2_35 v3_36 (1 : Int32) H locs ls h hP hD hS (lv_sub hl [0, 1, 2, 3] rfl)
      refine lv_iload_n hx hb dX6_readSum_13 rfl (lv_at hl 2 rfl) ?_
      refine lv_sipush (v := (400 : Int32)) hx hb dX6_readSum_14 (by decide) ?_
      refine lv_icmp_ge (tgt := 148) hx hb dX6_readSum_17 rfl (fun c22 => ?_) (fun c22 => ?_)
      · replace h := ite_t c22 h
        cases h
        exact kx _ _ _ _ _ _ _ _ _ rfl H locs ls hP hD hS (lv_sub hl [0, 1] rfl)
      · replace h := ite_f c22 h
        refine lv_aload_n hx hb dX6_readSum_20 rfl (lv_at hl 0 rfl) ?_
        refine va_get (ci := 6) (v := .ref (ad_this_tape 0)) (C := RX6) (T := TX6) (N := 7) hx hb hts inlX6 hown hK hP 0 rfl rfl 0 (by decide) (hts _ mw_4_14) (fun _ h9 => h9) rfl dX6_readSum_21 ?_
        refine va_get (ci := 9) (v := .int z_this_tape_sign_16) (C := RX9) (T := TX9) (N := 7) hx hb hts inlX9 hown hK hP 4 rfl rfl 3 (by decide) (hts _ mw_23_17) (fun _ h9 => h9) rfl dX6_readSum_24 ?_
        refine lv_istore_n (lv' := [(3, .int z_this_tape_sign_16), (0, .ref (ad_this 0)), (1, .int v1_20), (2, .int v2_21)]) hx hb dX6_readSum_27 rfl hl (by decide) rfl (fun ls hl => ?_)
        refine lv_aload_n hx hb dX6_readSum_28 rfl (lv_at hl 1 rfl) ?_
        refine va_get (ci := 6) (v := .ref (ad_this_tape 0)) (C := RX6) (T := TX6) (N := 7) hx hb hts inlX6 hown hK hP 0 rfl rfl 0 (by decide) (hts _ mw_4_14) (fun _ h9 => h9) rfl dX6_readSum_29 ?_
        refine lv_bipush (v := (42 : Int32)) hx hb dX6_readSum_32 (by decide) ?_
        obtain ⟨r_23, hc24, h⟩ := bnd1_el h
        refine mfV_i (As := [.int (42 : Int32)]) (rest := []) (wc := cTp ad_this_tape cy_this_tape z_this_tape_bytes z_this_tape_length z_this_tape_kind_15 z_this_tape_sign_16 z_this_tape_fault_17 z_this_tape_start_18 z_this_tape_stop_19) (wr := cRR ad_this cy_this (ad_this_tape 0) z_this_code_12 z_this_sumEnd z_this_testEnd z_this_size_13 z_this_clauses z_this_values_14) (wf := cRR ad_this cy_this (ad_this_tape 0) z_this_code_12 z_this_sumEnd z_this_testEnd z_this_size_13 z_this_clauses z_this_values_14 ++ cTp ad_this_tape cy_this_tape z_this_tape_bytes z_this_tape_length z_this_tape_kind_15 z_this_tape_sign_16 z_this_tape_fault_17 z_this_tape_start_18 z_this_tape_stop_19) S hK hP hD hS hA (c9_isAt hc24) [3] [4, 5] [0, 1, 2, 3] [0, 1, 2, 3, 4, 5] rfl rfl rfl (by decide) (by decide) (by decide) rfl (by decide) (gdV mw_24_4 mw_14_22 mw_14_23 mw_1_17 mw_15_0) rfl rfl hd_f9_isAt ⟨Nat.le_of_ble_eq_true rfl, Nat.le_of_ble_eq_true rfl⟩ (ci := 9) (q0 := 0) rfl rfl rfl hl.1 rfl (Nat.le_of_ble_eq_true rfl) dX6_readSum_34 (fun H locs hP hD hS => ?_)
        refine lv_if_ne (tgt := 64) hx hb dX6_readSum_37 rfl (fun c25 => ?_) (fun c25 => ?_)
        · replace h := ite_f c25 h
          exact J64 z_this_code_12 z_this_size_13 z_this_values_14 z_this_tape_kind_15 z_this_tape_sign_16 z_this_tape_fault_17 z_this_tape_start_18 z_this_tape_stop_19 v1_20 v2_21 z_this_tape_sign_16 H locs ls h hP hD hS (lv_sub hl [1, 2, 3, 0] rfl)
        · replace h := ite_t c25 h
          refine lv_aload_n hx hb dX6_readSum_40 rfl (lv_at hl 1 rfl) ?_
          refine va_get (ci := 6) (v := .ref (ad_this_tape 0)) (C := RX6) (T := TX6) (N := 7) hx hb hts inlX6 hown hK hP 0 rfl rfl 0 (by decide) (hts _ mw_4_14) (fun _ h9 => h9) rfl dX6_readSum_41 ?_
          refine lv_bipush (v := (47 : Int32)) hx hb dX6_readSum_44 (by decide) ?_
          obtain ⟨r_37, hc38, h⟩ := bnd1_el h
          refine mfV_i (As := [.int (47 : Int32)]) (rest := []) (wc := cTp ad_this_tape cy_this_tape z_this_tape_bytes z_this_tape_length z_this_tape_kind_15 z_this_tape_sign_16 z_this_tape_fault_17 z_this_tape_start_18 z_this_tape_stop_19) (wr := cRR ad_this cy_this (ad_this_tape 0) z_this_code_12 z_this_sumEnd z_this_testEnd z_this_size_13 z_this_clauses z_this_values_14) (wf := cRR ad_this cy_this (ad_this_tape 0) z_this_code_12 z_this_sumEnd z_this_testEnd z_this_size_13 z_this_clauses z_this_values_14 ++ cTp ad_this_tape cy_this_tape z_this_tape_bytes z_this_tape_length z_this_tape_kind_15 z_this_tape_sign_16 z_this_tape_fault_17 z_this_tape_start_18 z_this_tape_stop_19) S hK hP hD hS hA (c9_isAt hc38) [3] [4, 5] [0, 1, 2, 3] [0, 1, 2, 3, 4, 5] rfl rfl rfl (by decide) (by decide) (by decide) rfl (by decide) (gdV mw_24_4 mw_14_22 mw_14_23 mw_1_17 mw_15_0) rfl rfl hd_f9_isAt ⟨Nat.le_of_ble_eq_true rfl, Nat.le_of_ble_eq_true rfl⟩ (ci := 9) (q0 := 0) rfl rfl rfl hl.1 rfl (Nat.le_of_ble_eq_true rfl) dX6_readSum_46 (fun H locs hP hD hS => ?_)
          refine lv_if_ne (tgt := 64) hx hb dX6_readSum_49 rfl (fun c39 => ?_) (fun c39 => ?_)
          · replace h := ite_f c39 h
            exact J64 z_this_code_12 z_this_size_13 z_this_values_14 z_this_tape_kind_15 z_this_tape_sign_16 z_this_tape_fault_17 z_this_tape_start_18 z_this_tape_stop_19 v1_20 v2_21 z_this_tape_sign_16 H locs ls h hP hD hS (lv_sub hl [1, 2, 3, 0] rfl)
          · replace h := ite_t c39 h
            refine lv_aload_n hx hb dX6_readSum_52 rfl (lv_at hl 1 rfl) ?_
            refine va_get (ci := 6) (v := .ref (ad_this_tape 0)) (C := RX6) (T := TX6) (N := 7) hx hb hts inlX6 hown hK hP 0 rfl rfl 0 (by decide) (hts _ mw_4_14) (fun _ h9 => h9) rfl dX6_readSum_53 ?_
            refine lv_bipush (v := (37 : Int32)) hx hb dX6_readSum_56 (by decide) ?_
            obtain ⟨r_40, hc41, h⟩ := bnd1_el h
            refine mfV_i (As := [.int (37 : Int32)]) (rest := []) (wc := cTp ad_this_tape cy_this_tape z_this_tape_bytes z_this_tape_length z_this_tape_kind_15 z_this_tape_sign_16 z_this_tape_fault_17 z_this_tape_start_18 z_this_tape_stop_19) (wr := cRR ad_this cy_this (ad_this_tape 0) z_this_code_12 z_this_sumEnd z_this_testEnd z_this_size_13 z_this_clauses z_this_values_14) (wf := cRR ad_this cy_this (ad_this_tape 0) z_this_code_12 z_this_sumEnd z_this_testEnd z_this_size_13 z_this_clauses z_this_values_14 ++ cTp ad_this_tape cy_this_tape z_this_tape_bytes z_this_tape_length z_this_tape_kind_15 z_this_tape_sign_16 z_this_tape_fault_17 z_this_tape_start_18 z_this_tape_stop_19) S hK hP hD hS hA (c9_isAt hc41) [3] [4, 5] [0, 1, 2, 3] [0, 1, 2, 3, 4, 5] rfl rfl rfl (by decide) (by decide) (by decide) rfl (by decide) (gdV mw_24_4 mw_14_22 mw_14_23 mw_1_17 mw_15_0) rfl rfl hd_f9_isAt ⟨Nat.le_of_ble_eq_true rfl, Nat.le_of_ble_eq_true rfl⟩ (ci := 9) (q0 := 0) rfl rfl rfl hl.1 rfl (Nat.le_of_ble_eq_true rfl) dX6_readSum_58 (fun H locs hP hD hS => ?_)
            refine lv_if_eq (tgt := 68) hx hb dX6_readSum_61 rfl (fun c42 => ?_) (fun c42 => ?_)
            · replace h := ite_t c42 h
              refine lv_iconst (v := (0 : Int32)) hx hb dX6_readSum_68 (by decide) ?_
              exact J69 z_this_code_12 z_this_size_13 z_this_values_14 z_this_tape_kind_15 z_this_tape_sign_16 z_this_tape_fault_17 z_this_tape_start_18 z_this_tape_stop_19 v1_20 v2_21 z_this_tape_sign_16 (0 : Int32) H locs ls h hP hD hS (lv_sub hl [1, 2, 3, 0] rfl)
            · replace h := ite_f c42 h
              exact J64 z_this_code_12 z_this_size_13 z_this_values_14 z_this_tape_kind_15 z_this_tape_sign_16 z_this_tape_fault_17 z_this_tape_start_18 z_this_tape_stop_19 v1_20 v2_21 z_this_tape_sign_16 H locs ls h hP hD hS (lv_sub hl [1, 2, 3, 0] rfl)
    have L13 : ∀ (n : Nat) (z_this_code_12 : Nat → Int32) (z_this_size_13 : Int32) (z_this_values_14 : Int32) (z_this_tape_kind_15 : Int32) (z_this_tape_sign_16 : Int32) (z_this_tape_fault_17 : Int32) (z_this_tape_start_18 : Int32) (z_this_tape_stop_19 : Int32) (v1_20 : Int32) (v2_21 : Int32) (e13 : (Int32 × (Nat → Int32) × Int32 × Int32 × Int32 × Int32 × Int32 × Int32 × Int32) ⊕ ((Nat → Int32) × Int32 × Int32 × Int32 × Int32 × Int32 × Int32 × Int32 × Int32)) (H : Heap) (locs : List Loc) (ls : Array Slot), iter (fun (z : (Nat → Int32) × Int32 × Int32 × Int32 × Int32 × Int32 × Int32 × Int32 × Int32 × Int32) => f6_readSum_B13 z_this_tape_bytes z_this_tape_length z.1 z.2.1 z.2.2.1 z.2.2.2.1 z.2.2.2.2.1 z.2.2.2.2.2.1 z.2.2.2.2.2.2.1 z.2.2.2.2.2.2.2.1 z.2.2.2.2.2.2.2.2.1 z.2.2.2.2.2.2.2.2.2) n (z_this_code_12, z_this_size_13, z_this_values_14, z_this_tape_kind_15, z_this_tape_sign_16, z_this_tape_fault_17, z_this_tape_start_18, z_this_tape_stop_19, v1_20, v2_21) = some e13 → va_P D vwCl (cRR ad_this cy_this (ad_this_tape 0) z_this_code_12 z_this_sumEnd z_this_testEnd z_this_size_13 z_this_clauses z_this_values_14 ++ cTp ad_this_tape cy_this_tape z_this_tape_bytes z_this_tape_length z_this_tape_kind_15 z_this_tape_sign_16 z_this_tape_fault_17 z_this_tape_start_18 z_this_tape_stop_19) H → va_D A (cRR ad_this cy_this (ad_this_tape 0) z_this_code_12 z_this_sumEnd z_this_testEnd z_this_size_13 z_this_clauses z_this_values_14 ++ cTp ad_this_tape cy_this_tape z_this_tape_bytes z_this_tape_length z_this_tape_kind_15 z_this_tape_sign_16 z_this_tape_fault_17 z_this_tape_start_18 z_this_tape_stop_19) → va_S A s.heap H locs → lv_has ls 5 [(0, .ref (ad_this 0)), (1, .int v1_20), (2, .int v2_21)] → (∀ (z_this_code_112 : Nat → Int32) (z_this_size_113 : Int32) (z_this_values_114 : Int32) (z_this_tape_kind_115 : Int32) (z_this_tape_sign_116 : Int32) (z_this_tape_fault_117 : Int32) (z_this_tape_start_118 : Int32) (z_this_tape_stop_119 : Int32) (v1_120 : Int32), e13 = (.inr (z_this_code_112, z_this_size_113, z_this_values_114, z_this_tape_kind_115, z_this_tape_sign_116, z_this_tape_fault_117, z_this_tape_start_118, z_this_tape_stop_119, v1_120)) → ∀ (H : Heap) (locs : List Loc) (ls : Array Slot), va_P D vwCl (cRR ad_this cy_this (ad_this_tape 0) z_this_code_112 z_this_sumEnd z_this_testEnd z_this_size_113 z_this_clauses z_this_values_114 ++ cTp ad_this_tape cy_this_tape z_this_tape_bytes z_this_tape_length z_this_tape_kind_115 z_this_tape_sign_116 z_this_tape_fault_117 z_this_tape_start_118 z_this_tape_stop_119) H → va_D A (cRR ad_this cy_this (ad_this_tape 0) z_this_code_112 z_this_sumEnd z_this_testEnd z_this_size_113 z_this_clauses z_this_values_114 ++ cTp ad_this_tape cy_this_tape z_this_tape_bytes z_this_tape_length z_this_tape_kind_115 z_this_tape_sign_116 z_this_tape_fault_117 z_this_tape_start_118 z_this_tape_stop_119) → va_S A s.heap H locs → lv_has ls 5 [(0, .ref (ad_this 0)), (1, .int v1_120)] → W p l e rm_f6_readSum s m args below meth c H locs 0 0 Q (F0 m 148 ls [])) → (∀ q, e13 = .inl q → q = (o_ret, o_this_code, o_this_size, o_this_values, o_this_tape_kind, o_this_tape_sign, o_this_tape_fault, o_this_tape_start, o_this_tape_stop)) → W p l e rm_f6_readSum s m args below meth c H locs 0 0 Q (F0 m 13 ls []) := by
      intro n
      induction n with
      | zero => intro z_this_code_12 z_this_size_13 z_this_values_14 z_this_tape_kind_15 z_this_tape_sign_16 z_this_tape_fault_17 z_this_tape_start_18 z_this_tape_stop_19 v1_20 v2_21 e13 H locs ls h; exact (iter_0 h).elim
      | succ n ih =>
        intro z_this_code_12 z_this_size_13 z_this_values_14 z_this_tape_kind_15 z_this_tape_sign_16 z_this_tape_fault_17 z_this_tape_start_18 z_this_tape_stop_19 v1_20 v2_21 e13 H locs ls h hP hD hS hl kx kr
        obtain ⟨r, hb9, hor⟩ := iter_el h
        refine B13 z_this_code_12 z_this_size_13 z_this_values_14 z_this_tape_kind_15 z_this_tape_sign_16 z_this_tape_fault_17 z_this_tape_start_18 z_this_tape_stop_19 v1_20 v2_21 r H locs ls hb9 hP hD hS hl ?_ ?_ ?_
        · intro z_this_code_12' z_this_size_13' z_this_values_14' z_this_tape_kind_15' z_this_tape_sign_16' z_this_tape_fault_17' z_this_tape_start_18' z_this_tape_stop_19' v1_20' v2_21' er H locs ls hP hD hS hl
          subst er
          rcases hor with ⟨s', e', hi⟩ | e'
          · cases e'; exact ih _ _ _ _ _ _ _ _ _ _ _ H locs ls hi hP hD hS hl kx kr
          · cases e'
        · intro z_this_code_112' z_this_size_113' z_this_values_114' z_this_tape_kind_115' z_this_tape_sign_116' z_this_tape_fault_117' z_this_tape_start_118' z_this_tape_stop_119' v1_120' er H locs ls hP hD hS hl
          subst er
          rcases hor with ⟨s', e', hi⟩ | e'
          · cases e'
          · cases e'; exact kx _ _ _ _ _ _ _ _ _ rfl H locs ls hP hD hS hl
        · intro q er
          subst er
          rcases hor with ⟨s', e', hi⟩ | e'
          · cases e'
          · cases e'; exact kr _ rfl
    rcases bndS9_el h with ⟨q13, hi13, h⟩ | ⟨z_this_code_112, z_this_size_113, z_this_values_114, z_this_tape_kind_115, z_this_tape_sign_116, z_this_tape_fault_117, z_this_tape_start_118, z_this_tape_stop_119, v1_120, hi13, h⟩
    · refine L13 FUEL z_this_code_2 z_this_size_3 z_this_values_4 z_this_tape_kind_5 z_this_tape_sign_6 z_this_tape_fault_7 z_this_tape_start_8 z_this_tape_stop_9 (-1 : Int32) (0 : Int32) _ H locs ls hi13 hP hD hS (lv_sub hl [2, 1, 0] rfl) ?_ ?_
      · intro z_this_code_112' z_this_size_113' z_this_values_114' z_this_tape_kind_115' z_this_tape_sign_116' z_this_tape_fault_117' z_this_tape_start_118' z_this_tape_stop_119' v1_120' er; cases er
      · intro q er; cases er; exact Option.some.inj h
    refine L13 FUEL z_this_code_2 z_this_size_3 z_this_values_4 z_this_tape_kind_5 z_this_tape_sign_6 z_this_tape_fault_7 z_this_tape_start_8 z_this_tape_stop_9 (-1 : Int32) (0 : Int32) _ H locs ls hi13 hP hD hS (lv_sub hl [2, 1, 0] rfl) ?_ (fun q er => by cases er)
    intro z_this_code_112' z_this_size_113' z_this_values_114' z_this_tape_kind_115' z_this_tape_sign_116' z_this_tape_fault_117' z_this_tape_start_118' z_this_tape_stop_119' v1_120' er H locs ls hP hD hS hl
    cases er
    refine lv_aload_n hx hb dX6_readSum_148 rfl (lv_at hl 0 rfl) ?_
    refine lv_iload_n hx hb dX6_readSum_149 rfl (lv_at hl 1 rfl) ?_
    obtain ⟨z_this_code_121, z_this_size_122, hc123, h⟩ := bnd2_el h
    refine mfV_v (As := [.int v1_120]) (rest := []) (wc := cRR ad_this cy_this (ad_this_tape 0) z_this_code_112 z_this_sumEnd z_this_testEnd z_this_size_113 z_this_clauses z_this_values_114) (wr := cTp ad_this_tape cy_this_tape z_this_tape_bytes z_this_tape_length z_this_tape_kind_115 z_this_tape_sign_116 z_this_tape_fault_117 z_this_tape_start_118 z_this_tape_stop_119) (wf := cRR ad_this cy_this (ad_this_tape 0) z_this_code_121 z_this_sumEnd z_this_testEnd z_this_size_122 z_this_clauses z_this_values_114 ++ cTp ad_this_tape cy_this_tape z_this_tape_bytes z_this_tape_length z_this_tape_kind_115 z_this_tape_sign_116 z_this_tape_fault_117 z_this_tape_start_118 z_this_tape_stop_119) S hK hP hD hS hA (c6_emitWaiting hc123) [0, 1, 2] [0, 1, 2, 3] [4, 5] [2, 3, 4, 5, 0, 1] rfl rfl rfl (by decide) (by decide) (by decide) rfl (by decide) (gdV mw_24_5 mw_24_6 mw_24_7 mw_2_1 mw_24_8) rfl rfl hd_f6_emitWaiting ⟨Nat.le_of_ble_eq_true rfl, Nat.le_of_ble_eq_true rfl⟩ (ci := 6) (q0 := 0) rfl rfl rfl hl.1 rfl (Nat.le_of_ble_eq_true rfl) dX6_readSum_150 (fun H locs hP hD hS => ?_)
    refine lv_iconst (v := (1 : Int32)) hx hb dX6_readSum_153 (by decide) ?_
    obtain ⟨e_0, e_1, e_2, e_3, e_4, e_5, e_6, e_7, e_8⟩ := inj9 h
    subst e_0
    subst e_1
    subst e_2
    subst e_3
    subst e_4
    subst e_5
    subst e_6
    subst e_7
    subst e_8
    exact hret _ _ _ _ _ hP hD hS rfl nz1 dX6_readSum_154
  · replace h := ite_t c11 h
    refine lv_iconst (v := (0 : Int32)) hx hb dX6_readSum_7 (by decide) ?_
    obtain ⟨e_0, e_1, e_2, e_3, e_4, e_5, e_6, e_7, e_8⟩ := inj9 h
    subst e_0
    subst e_1
    subst e_2
    subst e_3
    subst e_4
    subst e_5
    subst e_6
    subst e_7
    subst e_8
    exact hret _ _ _ _ _ hP hD hS rfl nz0 dX6_readSum_8
/-! LadderLand$RuleReader.readComparison()Z  -/
def f6_readComparison_J35 (z_this_code_13 : Nat → Int32) (z_this_size_14 : Int32) (z_this_values_15 : Int32) (z_this_tape_kind_16 : Int32) (z_this_tape_sign_17 : Int32) (z_this_tape_fault_18 : Int32) (z_this_tape_start_19 : Int32) (z_this_tape_stop_20 : Int32) : Option (Int32 × (Nat → Int32) × Int32 × Int32 × Int32 × Int32 × Int32 × Int32 × Int32) :=
bnd2 (f9_refuse z_this_tape_fault_18 z_this_tape_start_19 (0 : Int32)) (fun r_48 z_this_tape_fault_49 =>
if r_48 = 0 ∨ r_48 = 1 then some (r_48, z_this_code_13, z_this_size_14, z_this_values_15, z_this_tape_kind_16, z_this_tape_sign_17, z_this_tape_fault_49, z_this_tape_start_19, z_this_tape_stop_20) else none)

def f6_readComparison (z_this_code : Nat → Int32) (z_this_size : Int32) (z_this_values : Int32) (z_this_tape_bytes : Nat → Int32) (z_this_tape_length : Int32) (z_this_tape_kind : Int32) (z_this_tape_sign : Int32) (z_this_tape_fault : Int32) (z_this_tape_start : Int32) (z_this_tape_stop : Int32) : Option (Int32 × (Nat → Int32) × Int32 × Int32 × Int32 × Int32 × Int32 × Int32 × Int32) :=
bnd9 (f6_readSum z_this_code z_this_size z_this_values z_this_tape_bytes z_this_tape_length z_this_tape_kind z_this_tape_sign z_this_tape_fault z_this_tape_start z_this_tape_stop) (fun r_1 z_this_code_2 z_this_size_3 z_this_values_4 z_this_tape_kind_5 z_this_tape_sign_6 z_this_tape_fault_7 z_this_tape_start_8 z_this_tape_stop_9 =>
if r_1 = 0 then (some ((0 : Int32), z_this_code_2, z_this_size_3, z_this_values_4, z_this_tape_kind_5, z_this_tape_sign_6, z_this_tape_fault_7, z_this_tape_start_8, z_this_tape_stop_9)) else (if z_this_tape_kind_5 = (3 : Int32) then (bnd1 (f5_compares z_this_tape_sign_6) (fun r_21 =>
if r_21 = 0 then (f6_readComparison_J35 z_this_code_2 z_this_size_3 z_this_values_4 z_this_tape_kind_5 z_this_tape_sign_6 z_this_tape_fault_7 z_this_tape_start_8 z_this_tape_stop_9) else (if z_this_values_4 < (60 : Int32) then (lt ((z_this_values_4 + (1 : Int32))) (fun x_25 =>
bnd4 (f9_advance z_this_tape_bytes z_this_tape_length z_this_tape_kind_5 z_this_tape_sign_6 z_this_tape_start_8 z_this_tape_stop_9) (fun z_this_tape_kind_26 z_this_tape_sign_27 z_this_tape_start_28 z_this_tape_stop_29 =>
bnd9 (f6_readSum z_this_code_2 z_this_size_3 x_25 z_this_tape_bytes z_this_tape_length z_this_tape_kind_26 z_this_tape_sign_27 z_this_tape_fault_7 z_this_tape_start_28 z_this_tape_stop_29) (fun r_31 z_this_code_32 z_this_size_33 z_this_values_34 z_this_tape_kind_35 z_this_tape_sign_36 z_this_tape_fault_37 z_this_tape_start_38 z_this_tape_stop_39 =>
if r_31 = 0 then (some ((0 : Int32), z_this_code_32, z_this_size_33, z_this_values_34, z_this_tape_kind_35, z_this_tape_sign_36, z_this_tape_fault_37, z_this_tape_start_38, z_this_tape_stop_39)) else (bnd2 (f6_emit z_this_code_32 z_this_size_33 (2 : Int32) z_this_tape_sign_6) (fun z_this_code_42 z_this_size_43 =>
some ((1 : Int32), z_this_code_42, z_this_size_43, z_this_values_34, z_this_tape_kind_35, z_this_tape_sign_36, z_this_tape_fault_37, z_this_tape_start_38, z_this_tape_stop_39))))))) else (bnd2 (f9_refuse z_this_tape_fault_7 z_this_tape_start_8 (3 : Int32)) (fun r_45 z_this_tape_fault_46 =>
if r_45 = 0 ∨ r_45 = 1 then some (r_45, z_this_code_2, z_this_size_3, z_this_values_4, z_this_tape_kind_5, z_this_tape_sign_6, z_this_tape_fault_46, z_this_tape_start_8, z_this_tape_stop_9) else none))))) else (f6_readComparison_J35 z_this_code_2 z_this_size_3 z_this_values_4 z_this_tape_kind_5 z_this_tape_sign_6 z_this_tape_fault_7 z_this_tape_start_8 z_this_tape_stop_9)))

abbrev rm_f6_readComparison : Room := { frames := 8, cells := 0, slots := 0, locals := 174 }
theorem hd_f6_readComparison : yX6_readComparison.cls = RX6 ∧ yX6_readComparison.cls ≠ "java/lang/invoke/MethodHandle" ∧ yX6_readComparison.cls ≠ "java/lang/invoke/VarHandle" ∧ (parseMethodDescriptor yX6_readComparison.desc).map (fun d => d.parameters.length) = some 0 := by decide +kernel
set_option maxHeartbeats 4000000 in
set_option maxRecDepth 100000 in
theorem c6_readComparison {l : Launch} {D : va_G} {adK : Nat → Nat} {adV : Nat → Nat} {ad_this : Nat → Nat} {cy_this : Nat → ClassId} {z_this_code : Nat → Int32} {z_this_sumEnd : Nat → Int32} {z_this_testEnd : Nat → Int32} {z_this_size : Int32} {z_this_clauses : Int32} {z_this_values : Int32} {ad_this_tape : Nat → Nat} {cy_this_tape : Nat → ClassId} {z_this_tape_bytes : Nat → Int32} {z_this_tape_length : Int32} {z_this_tape_kind : Int32} {z_this_tape_sign : Int32} {z_this_tape_fault : Int32} {z_this_tape_start : Int32} {z_this_tape_stop : Int32} {o_ret : Int32} {o_this_code : Nat → Int32} {o_this_size : Int32} {o_this_values : Int32} {o_this_tape_kind : Int32} {o_this_tape_sign : Int32} {o_this_tape_fault : Int32} {o_this_tape_start : Int32} {o_this_tape_stop : Int32} (h : f6_readComparison z_this_code z_this_size z_this_values z_this_tape_bytes z_this_tape_length z_this_tape_kind z_this_tape_sign z_this_tape_fault z_this_tape_start z_this_tape_stop = some (o_ret, o_this_code, o_this_size, o_this_values, o_this_tape_kind, o_this_tape_sign, o_this_tape_fault, o_this_tape_start, o_this_tape_stop)) : MetIE l yX6_readComparison cX6_readComparison 2 (some .boolean) rm_f6_readComparison D ([(cy_this 1, .int), (cy_this 2, .int), (cy_this 3, .int), (cy_this_tape 1, .int)]) (cRR ad_this cy_this (ad_this_tape 0) z_this_code z_this_sumEnd z_this_testEnd z_this_size z_this_clauses z_this_values ++ cTp ad_this_tape cy_this_tape z_this_tape_bytes z_this_tape_length z_this_tape_kind z_this_tape_sign z_this_tape_fault z_this_tape_start z_this_tape_stop) (cRR ad_this cy_this (ad_this_tape 0) o_this_code z_this_sumEnd z_this_testEnd o_this_size z_this_clauses o_this_values ++ cTp ad_this_tape cy_this_tape z_this_tape_bytes z_this_tape_length o_this_tape_kind o_this_tape_sign o_this_tape_fault o_this_tape_start o_this_tape_stop) [.ref (ad_this 0)] adK adV o_ret := by
  refine metIE_of (own := RX6) rfl (by decide) (Nat.le_of_ble_eq_true rfl) ?_
  intro p e s m args below meth c A Q ls S hK hA hP hD hS hl hE hret
  obtain ⟨hx, hb, hml, hown, hts⟩ := id S
  replace hl : lv_has ls 2 [(0, .ref (ad_this 0))] := hl
  generalize hH : s.heap = H at hP ⊢
  replace hS : va_S A s.heap H [] := by rw [← hH]; exact hS
  generalize hlo : ([] : List Loc) = locs at hS ⊢
  unfold f6_readComparison at h
  have J35 : ∀ (z_this_code_13 : Nat → Int32) (z_this_size_14 : Int32) (z_this_values_15 : Int32) (z_this_tape_kind_16 : Int32) (z_this_tape_sign_17 : Int32) (z_this_tape_fault_18 : Int32) (z_this_tape_start_19 : Int32) (z_this_tape_stop_20 : Int32) (H : Heap) (locs : List Loc) (ls : Array Slot), f6_readComparison_J35 z_this_code_13 z_this_size_14 z_this_values_15 z_this_tape_kind_16 z_this_tape_sign_17 z_this_tape_fault_18 z_this_tape_start_19 z_this_tape_stop_20 = some (o_ret, o_this_code, o_this_size, o_this_values, o_this_tape_kind, o_this_tape_sign, o_this_tape_fault, o_this_tape_start, o_this_tape_stop) → va_P D vwCl (cRR ad_this cy_this (ad_this_tape 0) z_this_code_13 z_this_sumEnd z_this_testEnd z_this_size_14 z_this_clauses z_this_values_15 ++ cTp ad_this_tape cy_this_tape z_this_tape_bytes z_this_tape_length z_this_tape_kind_16 z_this_tape_sign_17 z_this_tape_fault_18 z_this_tape_start_19 z_this_tape_stop_20) H → va_D A (cRR ad_this cy_this (ad_this_tape 0) z_this_code_13 z_this_sumEnd z_this_testEnd z_this_size_14 z_this_clauses z_this_values_15 ++ cTp ad_this_tape cy_this_tape z_this_tape_bytes z_this_tape_length z_this_tape_kind_16 z_this_tape_sign_17 z_this_tape_fault_18 z_this_tape_start_19 z_this_tape_stop_20) → va_S A s.heap H locs → lv_has ls 2 [(0, .ref (ad_this 0))] → W p l e rm_f6_readComparison s m args below meth c H locs 0 0 Q (F0 m 35 ls []) := by
    intro z_this_code_13 z_this_size_14 z_this_values_15 z_this_tape_kind_16 z_this_tape_sign_17 z_this_tape_fault_18 z_this_tape_start_19 z_this_tape_stop_20 H locs ls h hP hD hS hl
    unfold f6_readComparison_J35 at h
    refine lv_aload_n hx hb dX6_readComparison_35 rfl (lv_at hl 0 rfl) ?_
    refine va_get (ci := 6) (v := .ref (ad_this_tape 0)) (C := RX6) (T := TX6) (N := 7) hx hb hts inlX6 hown hK hP 0 rfl rfl 0 (by decide) (hts _ mw_4_14) (fun _ h9 => h9) rfl dX6_readComparison_36 ?_
    refine lv_iconst (v := (0 : Int32)) hx hb dX6_readComparison_39 (by decide) ?_
    obtain ⟨r_48, z_this_tape_fault_49, hc50, h⟩ := bnd2_el h
    refine mfV_i (As := [.int (0 : Int32)]) (rest := []) (wc := cTp ad_this_tape cy_this_tape z_this_tape_bytes z_this_tape_length z_this_tape_kind_16 z_this_tape_sign_17 z_this_tape_fault_18 z_this_tape_start_19 z_this_tape_stop_20) (wr := cRR ad_this cy_this (ad_this_tape 0) z_this_code_13 z_this_sumEnd z_this_testEnd z_this_size_14 z_this_clauses z_this_values_15) (wf := cRR ad_this cy_this (ad_this_tape 0) z_this_code_13 z_this_sumEnd z_this_testEnd z_this_size_14 z_this_clauses z_this_values_15 ++ cTp ad_this_tape cy_this_tape z_this_tape_bytes z_this_tape_length z_this_tape_kind_16 z_this_tape_sign_17 z_this_tape_fault_49 z_this_tape_start_19 z_this_tape_stop_20) S hK hP hD hS hA (c9_refuse hc50) [3] [4, 5] [0, 1, 2, 3] [0, 1, 2, 3, 4, 5] rfl rfl rfl (by decide) (by decide) (by decide) rfl (by decide) (gdV mw_23_11 mw_12_18 mw_12_19 mw_1_17 mw_12_20) rfl rfl hd_f9_refuse ⟨Nat.le_of_ble_eq_true rfl, Nat.le_of_ble_eq_true rfl⟩ (ci := 9) (q0 := 0) rfl rfl rfl hl.1 rfl (Nat.le_of_ble_eq_true rfl) dX6_readComparison_40 (fun H locs hP hD hS => ?_)
    obtain ⟨hz, h⟩ := gd_el h
    obtain ⟨e_0, e_1, e_2, e_3, e_4, e_5, e_6, e_7, e_8⟩ := inj9 h
    subst e_0
    subst e_1
    subst e_2
    subst e_3
    subst e_4
    subst e_5
    subst e_6
    subst e_7
    subst e_8
    exact hret _ _ _ _ _ hP hD hS rfl (nzg hz) dX6_readComparison_43
  refine lv_aload_n hx hb dX6_readComparison_0 rfl (lv_at hl 0 rfl) ?_
  obtain ⟨r_1, z_this_code_2, z_this_size_3, z_this_values_4, z_this_tape_kind_5, z_this_tape_sign_6, z_this_tape_fault_7, z_this_tape_start_8, z_this_tape_stop_9, hc10, h⟩ := bnd9_el h
  refine mfV_iE (As := []) (rest := []) (wc := cRR ad_this cy_this (ad_this_tape 0) z_this_code z_this_sumEnd z_this_testEnd z_this_size z_this_clauses z_this_values ++ cTp ad_this_tape cy_this_tape z_this_tape_bytes z_this_tape_length z_this_tape_kind z_this_tape_sign z_this_tape_fault z_this_tape_start z_this_tape_stop) (wr := []) (wf := cRR ad_this cy_this (ad_this_tape 0) z_this_code_2 z_this_sumEnd z_this_testEnd z_this_size_3 z_this_clauses z_this_values_4 ++ cTp ad_this_tape cy_this_tape z_this_tape_bytes z_this_tape_length z_this_tape_kind_5 z_this_tape_sign_6 z_this_tape_fault_7 z_this_tape_start_8 z_this_tape_stop_9) S hK hP hD hS hA hE (c6_readSum hc10) [0, 1, 2, 3] [0, 1, 2, 3, 4, 5] [] [0, 1, 2, 3, 4, 5] rfl rfl rfl (by decide) (by decide) (by decide) rfl (by decide) (gdV mw_23_13 mw_23_14 mw_23_15 mw_2_1 mw_23_16) rfl rfl hd_f6_readSum ⟨Nat.le_of_ble_eq_true rfl, Nat.le_of_ble_eq_true rfl⟩ (ci := 6) (q0 := 0) rfl rfl rfl hl.1 rfl (Nat.le_of_ble_eq_true rfl) dX6_readComparison_1 (fun H locs hP hD hS => ?_)
  refine lv_if_ne (tgt := 9) hx hb dX6_readComparison_4 rfl (fun c11 => ?_) (fun c11 => ?_)
  · replace h := ite_f c11 h
    refine lv_aload_n hx hb dX6_readComparison_9 rfl (lv_at hl 0 rfl) ?_
    refine va_get (ci := 6) (v := .ref (ad_this_tape 0)) (C := RX6) (T := TX6) (N := 7) hx hb hts inlX6 hown hK hP 0 rfl rfl 0 (by decide) (hts _ mw_4_14) (fun _ h9 => h9) rfl dX6_readComparison_10 ?_
    refine va_get (ci := 9) (v := .int z_this_tape_sign_6) (C := RX9) (T := TX9) (N := 7) hx hb hts inlX9 hown hK hP 4 rfl rfl 3 (by decide) (hts _ mw_23_17) (fun _ h9 => h9) rfl dX6_readComparison_13 ?_
    refine lv_istore_n (lv' := [(1, .int z_this_tape_sign_6), (0, .ref (ad_this 0))]) hx hb dX6_readComparison_16 rfl hl (by decide) rfl (fun ls hl => ?_)
    refine lv_aload_n hx hb dX6_readComparison_17 rfl (lv_at hl 1 rfl) ?_
    refine va_get (ci := 6) (v := .ref (ad_this_tape 0)) (C := RX6) (T := TX6) (N := 7) hx hb hts inlX6 hown hK hP 0 rfl rfl 0 (by decide) (hts _ mw_4_14) (fun _ h9 => h9) rfl dX6_readComparison_18 ?_
    refine va_get (ci := 9) (v := .int z_this_tape_kind_5) (C := RX9) (T := TX9) (N := 7) hx hb hts inlX9 hown hK hP 4 rfl rfl 2 (by decide) (hts _ mw_23_4) (fun _ h9 => h9) rfl dX6_readComparison_21 ?_
    refine lv_iconst (v := (3 : Int32)) hx hb dX6_readComparison_24 (by decide) ?_
    refine lv_icmp_ne (tgt := 35) hx hb dX6_readComparison_25 rfl (fun c12 => ?_) (fun c12 => ?_)
    · replace h := ite_f c12 h
      exact J35 z_this_code_2 z_this_size_3 z_this_values_4 z_this_tape_kind_5 z_this_tape_sign_6 z_this_tape_fault_7 z_this_tape_start_8 z_this_tape_stop_9 H locs ls h hP hD hS (lv_sub hl [1] rfl)
    · replace h := ite_t c12 h
      refine lv_iload_n hx hb dX6_readComparison_28 rfl (lv_at hl 0 rfl) ?_
      obtain ⟨r_21, hc22, h⟩ := bnd1_el h
      refine mcS_i (As := [.int z_this_tape_sign_6]) (rest := []) S hK hP hD hS hA (c5_compares hc22) (gdS mw_24_22 mw_24_23 mw_25_0 mw_25_1) rfl rfl hd_f5_compares ⟨Nat.le_of_ble_eq_true rfl, Nat.le_of_ble_eq_true rfl⟩ rfl hl.1 rfl (Nat.le_of_ble_eq_true rfl) dX6_readComparison_29 (fun H locs hP hD hS => ?_)
      refine lv_if_ne (tgt := 44) hx hb dX6_readComparison_32 rfl (fun c23 => ?_) (fun c23 => ?_)
      · replace h := ite_f c23 h
        refine lv_aload_n hx hb dX6_readComparison_44 rfl (lv_at hl 1 rfl) ?_
        refine va_get (ci := 6) (v := .int z_this_values_4) (C := RX6) (T := TX6) (N := 7) hx hb hts inlX6 hown hK hP 0 rfl rfl 6 (by decide) (hts _ mw_23_3) (fun _ h9 => h9) rfl dX6_readComparison_45 ?_
        refine lv_bipush (v := (60 : Int32)) hx hb dX6_readComparison_48 (by decide) ?_
        refine lv_icmp_lt (tgt := 62) hx hb dX6_readComparison_50 rfl (fun c24 => ?_) (fun c24 => ?_)
        · replace h := ite_t c24 h
          refine lv_aload_n hx hb dX6_readComparison_62 rfl (lv_at hl 1 rfl) ?_
          refine lv_dup hx hb dX6_readComparison_63 rfl ?_
          refine va_get (ci := 6) (v := .int z_this_values_4) (C := RX6) (T := TX6) (N := 7) hx hb hts inlX6 hown hK hP 0 rfl rfl 6 (by decide) (hts _ mw_23_3) (fun _ h9 => h9) rfl dX6_readComparison_64 ?_
          refine lv_iconst (v := (1 : Int32)) hx hb dX6_readComparison_67 (by decide) ?_
          refine lv_iadd hx hb dX6_readComparison_68 ?_
          refine lv_topi (fun x_25 ex_25 => ?_)
          replace h := lt_ex ex_25 h
          refine va_put (ci := 6) (v := .int x_25) (ty := .int) (C := RX6) (T := TX6) (N := 7) hx hb hts inlX6 tyX6 tyX6_ok nmX6 hown hK hP hD hS 0 rfl rfl 6 (by decide) (hts _ mw_23_3) (fun _ h9 => h9) rfl (by decide +kernel) rfl rfl (Nat.le_of_ble_eq_true rfl) dX6_readComparison_69 (fun H locs hP hD hS => ?_)
          replace hP : va_P D vwCl (cRR ad_this cy_this (ad_this_tape 0) z_this_code_2 z_this_sumEnd z_this_testEnd z_this_size_3 z_this_clauses x_25 ++ cTp ad_this_tape cy_this_tape z_this_tape_bytes z_this_tape_length z_this_tape_kind_5 z_this_tape_sign_6 z_this_tape_fault_7 z_this_tape_start_8 z_this_tape_stop_9) H := hP
          replace hD : va_D A (cRR ad_this cy_this (ad_this_tape 0) z_this_code_2 z_this_sumEnd z_this_testEnd z_this_size_3 z_this_clauses x_25 ++ cTp ad_this_tape cy_this_tape z_this_tape_bytes z_this_tape_length z_this_tape_kind_5 z_this_tape_sign_6 z_this_tape_fault_7 z_this_tape_start_8 z_this_tape_stop_9) := hD
          refine lv_aload_n hx hb dX6_readComparison_72 rfl (lv_at hl 1 rfl) ?_
          refine va_get (ci := 6) (v := .ref (ad_this_tape 0)) (C := RX6) (T := TX6) (N := 7) hx hb hts inlX6 hown hK hP 0 rfl rfl 0 (by decide) (hts _ mw_4_14) (fun _ h9 => h9) rfl dX6_readComparison_73 ?_
          obtain ⟨z_this_tape_kind_26, z_this_tape_sign_27, z_this_tape_start_28, z_this_tape_stop_29, hc30, h⟩ := bnd4_el h
          refine mfV_v (As := []) (rest := []) (wc := cTp ad_this_tape cy_this_tape z_this_tape_bytes z_this_tape_length z_this_tape_kind_5 z_this_tape_sign_6 z_this_tape_fault_7 z_this_tape_start_8 z_this_tape_stop_9) (wr := cRR ad_this cy_this (ad_this_tape 0) z_this_code_2 z_this_sumEnd z_this_testEnd z_this_size_3 z_this_clauses x_25) (wf := cRR ad_this cy_this (ad_this_tape 0) z_this_code_2 z_this_sumEnd z_this_testEnd z_this_size_3 z_this_clauses x_25 ++ cTp ad_this_tape cy_this_tape z_this_tape_bytes z_this_tape_length z_this_tape_kind_26 z_this_tape_sign_27 z_this_tape_fault_7 z_this_tape_start_28 z_this_tape_stop_29) S hK hP hD hS hA (c9_advance hc30) [3] [4, 5] [0, 1, 2, 3] [0, 1, 2, 3, 4, 5] rfl rfl rfl (by decide) (by decide) (by decide) rfl (by decide) (gdV mw_23_12 mw_10_1 mw_10_2 mw_1_17 mw_10_3) rfl rfl hd_f9_advance ⟨Nat.le_of_ble_eq_true rfl, Nat.le_of_ble_eq_true rfl⟩ (ci := 9) (q0 := 0) rfl rfl rfl hl.1 rfl (Nat.le_of_ble_eq_true rfl) dX6_readComparison_76 (fun H locs hP hD hS => ?_)
          refine lv_aload_n hx hb dX6_readComparison_79 rfl (lv_at hl 1 rfl) ?_
          obtain ⟨r_31, z_this_code_32, z_this_size_33, z_this_values_34, z_this_tape_kind_35, z_this_tape_sign_36, z_this_tape_fault_37, z_this_tape_start_38, z_this_tape_stop_39, hc40, h⟩ := bnd9_el h
          refine mfV_iE (As := []) (rest := []) (wc := cRR ad_this cy_this (ad_this_tape 0) z_this_code_2 z_this_sumEnd z_this_testEnd z_this_size_3 z_this_clauses x_25 ++ cTp ad_this_tape cy_this_tape z_this_tape_bytes z_this_tape_length z_this_tape_kind_26 z_this_tape_sign_27 z_this_tape_fault_7 z_this_tape_start_28 z_this_tape_stop_29) (wr := []) (wf := cRR ad_this cy_this (ad_this_tape 0) z_this_code_32 z_this_sumEnd z_this_testEnd z_this_size_33 z_this_clauses z_this_values_34 ++ cTp ad_this_tape cy_this_tape z_this_tape_bytes z_this_tape_length z_this_tape_kind_35 z_this_tape_sign_36 z_this_tape_fault_37 z_this_tape_start_38 z_this_tape_stop_39) S hK hP hD hS hA hE (c6_readSum hc40) [0, 1, 2, 3] [0, 1, 2, 3, 4, 5] [] [0, 1, 2, 3, 4, 5] rfl rfl rfl (by decide) (by decide) (by decide) rfl (by decide) (gdV mw_23_13 mw_23_14 mw_23_15 mw_2_1 mw_23_16) rfl rfl hd_f6_readSum ⟨Nat.le_of_ble_eq_true rfl, Nat.le_of_ble_eq_true rfl⟩ (ci := 6) (q0 := 0) rfl rfl rfl hl.1 rfl (Nat.le_of_ble_eq_true rfl) dX6_readComparison_80 (fun H locs hP hD hS => ?_)
          refine lv_if_ne (tgt := 88) hx hb dX6_readComparison_83 rfl (fun c41 => ?_) (fun c41 => ?_)
          · replace h := ite_f c41 h
            refine lv_aload_n hx hb dX6_readComparison_88 rfl (lv_at hl 1 rfl) ?_
            refine lv_iconst (v := (2 : Int32)) hx hb dX6_readComparison_89 (by decide) ?_
            refine lv_iload_n hx hb dX6_readComparison_90 rfl (lv_at hl 0 rfl) ?_
            obtain ⟨z_this_code_42, z_this_size_43, hc44, h⟩ := bnd2_el h
            refine mfV_v (As := [.int (2 : Int32), .int z_this_tape_sign_6]) (rest := []) (wc := cRR ad_this cy_this (ad_this_tape 0) z_this_code_32 z_this_sumEnd z_this_testEnd z_this_size_33 z_this_clauses z_this_values_34) (wr := cTp ad_this_tape cy_this_tape z_this_tape_bytes z_this_tape_length z_this_tape_kind_35 z_this_tape_sign_36 z_this_tape_fault_37 z_this_tape_start_38 z_this_tape_stop_39) (wf := cRR ad_this cy_this (ad_this_tape 0) z_this_code_42 z_this_sumEnd z_this_testEnd z_this_size_43 z_this_clauses z_this_values_34 ++ cTp ad_this_tape cy_this_tape z_this_tape_bytes z_this_tape_length z_this_tape_kind_35 z_this_tape_sign_36 z_this_tape_fault_37 z_this_tape_start_38 z_this_tape_stop_39) S hK hP hD hS hA (c6_emit hc44) [0, 1, 2] [0, 1, 2, 3] [4, 5] [2, 3, 4, 5, 0, 1] rfl rfl rfl (by decide) (by decide) (by decide) rfl (by decide) (gdV mw_24_0 mw_24_1 mw_24_2 mw_2_1 mw_24_3) rfl rfl hd_f6_emit ⟨Nat.le_of_ble_eq_true rfl, Nat.le_of_ble_eq_true rfl⟩ (ci := 6) (q0 := 0) rfl rfl rfl hl.1 rfl (Nat.le_of_ble_eq_true rfl) dX6_readComparison_91 (fun H locs hP hD hS => ?_)
            refine lv_iconst (v := (1 : Int32)) hx hb dX6_readComparison_94 (by decide) ?_
            obtain ⟨e_0, e_1, e_2, e_3, e_4, e_5, e_6, e_7, e_8⟩ := inj9 h
            subst e_0
            subst e_1
            subst e_2
            subst e_3
            subst e_4
            subst e_5
            subst e_6
            subst e_7
            subst e_8
            exact hret _ _ _ _ _ hP hD hS rfl nz1 dX6_readComparison_95
          · replace h := ite_t c41 h
            refine lv_iconst (v := (0 : Int32)) hx hb dX6_readComparison_86 (by decide) ?_
            obtain ⟨e_0, e_1, e_2, e_3, e_4, e_5, e_6, e_7, e_8⟩ := inj9 h
            subst e_0
            subst e_1
            subst e_2
            subst e_3
            subst e_4
            subst e_5
            subst e_6
            subst e_7
            subst e_8
            exact hret _ _ _ _ _ hP hD hS rfl nz0 dX6_readComparison_87
        · replace h := ite_f c24 h
          refine lv_aload_n hx hb dX6_readComparison_53 rfl (lv_at hl 1 rfl) ?_
          refine va_get (ci := 6) (v := .ref (ad_this_tape 0)) (C := RX6) (T := TX6) (N := 7) hx hb hts inlX6 hown hK hP 0 rfl rfl 0 (by decide) (hts _ mw_4_14) (fun _ h9 => h9) rfl dX6_readComparison_54 ?_
          refine lv_iconst (v := (3 : Int32)) hx hb dX6_readComparison_57 (by decide) ?_
          obtain ⟨r_45, z_this_tape_fault_46, hc47, h⟩ := bnd2_el h
          refine mfV_i (As := [.int (3 : Int32)]) (rest := []) (wc := cTp ad_this_tape cy_this_tape z_this_tape_bytes z_this_tape_length z_this_tape_kind_5 z_this_tape_sign_6 z_this_tape_fault_7 z_this_tape_start_8 z_this_tape_stop_9) (wr := cRR ad_this cy_this (ad_this_tape 0) z_this_code_2 z_this_sumEnd z_this_testEnd z_this_size_3 z_this_clauses z_this_values_4) (wf := cRR ad_this cy_this (ad_this_tape 0) z_this_code_2 z_this_sumEnd z_this_testEnd z_this_size_3 z_this_clauses z_this_values_4 ++ cTp ad_this_tape cy_this_tape z_this_tape_bytes z_this_tape_length z_this_tape_kind_5 z_this_tape_sign_6 z_this_tape_fault_46 z_this_tape_start_8 z_this_tape_stop_9) S hK hP hD hS hA (c9_refuse hc47) [3] [4, 5] [0, 1, 2, 3] [0, 1, 2, 3, 4, 5] rfl rfl rfl (by decide) (by decide) (by decide) rfl (by decide) (gdV mw_23_11 mw_12_18 mw_12_19 mw_1_17 mw_12_20) rfl rfl hd_f9_refuse ⟨Nat.le_of_ble_eq_true rfl, Nat.le_of_ble_eq_true rfl⟩ (ci := 9) (q0 := 0) rfl rfl rfl hl.1 rfl (Nat.le_of_ble_eq_true rfl) dX6_readComparison_58 (fun H locs hP hD hS => ?_)
          obtain ⟨hz, h⟩ := gd_el h
          obtain ⟨e_0, e_1, e_2, e_3, e_4, e_5, e_6, e_7, e_8⟩ := inj9 h
          subst e_0
          subst e_1
          subst e_2
          subst e_3
          subst e_4
          subst e_5
          subst e_6
          subst e_7
          subst e_8
          exact hret _ _ _ _ _ hP hD hS rfl (nzg hz) dX6_readComparison_61
      · replace h := ite_t c23 h
        exact J35 z_this_code_2 z_this_size_3 z_this_values_4 z_this_tape_kind_5 z_this_tape_sign_6 z_this_tape_fault_7 z_this_tape_start_8 z_this_tape_stop_9 H locs ls h hP hD hS (lv_sub hl [1] rfl)
  · replace h := ite_t c11 h
    refine lv_iconst (v := (0 : Int32)) hx hb dX6_readComparison_7 (by decide) ?_
    obtain ⟨e_0, e_1, e_2, e_3, e_4, e_5, e_6, e_7, e_8⟩ := inj9 h
    subst e_0
    subst e_1
    subst e_2
    subst e_3
    subst e_4
    subst e_5
    subst e_6
    subst e_7
    subst e_8
    exact hret _ _ _ _ _ hP hD hS rfl nz0 dX6_readComparison_8
/-! readTest -/
def f6_readTest_J82 (z_this_tape_bytes : Nat → Int32) (z_this_tape_length : Int32) (rc_f6_readFact : (Nat → Int32) → (Int32) → (Int32) → (Nat → Int32) → (Int32) → (Int32) → (Int32) → (Int32) → (Int32) → (Int32) → (Int32) → Option (Int32 × (Nat → Int32) × Int32 × Int32 × Int32 × Int32 × Int32 × Int32 × Int32)) (a1 : Int32) (z_this_code_68 : Nat → Int32) (z_this_size_69 : Int32) (z_this_values_70 : Int32) (z_this_tape_kind_71 : Int32) (z_this_tape_sign_72 : Int32) (z_this_tape_fault_73 : Int32) (z_this_tape_start_74 : Int32) (z_this_tape_stop_75 : Int32) (v3_76 : Int32) (v4_77 : Int32) (t0_78 : Int32) : Option (((Nat → Int32) × Int32 × Int32 × Int32 × Int32 × Int32 × Int32 × Int32 × Int32 × Int32) ⊕ ((Int32 × (Nat → Int32) × Int32 × Int32 × Int32 × Int32 × Int32 × Int32 × Int32) ⊕ ((Nat → Int32) × Int32 × Int32 × Int32 × Int32 × Int32 × Int32 × Int32 × Int32))) :=
bnd4 (f9_advance z_this_tape_bytes z_this_tape_length z_this_tape_kind_71 z_this_tape_sign_72 z_this_tape_start_74 z_this_tape_stop_75) (fun z_this_tape_kind_79 z_this_tape_sign_80 z_this_tape_start_81 z_this_tape_stop_82 =>
bnd9 (rc_f6_readFact z_this_code_68 z_this_size_69 z_this_values_70 z_this_tape_bytes z_this_tape_length z_this_tape_kind_79 z_this_tape_sign_80 z_this_tape_fault_73 z_this_tape_start_81 z_this_tape_stop_82 a1) (fun r_84 z_this_code_85 z_this_size_86 z_this_values_87 z_this_tape_kind_88 z_this_tape_sign_89 z_this_tape_fault_90 z_this_tape_start_91 z_this_tape_stop_92 =>
if r_84 = 0 then (some (.inr (.inl ((0 : Int32), z_this_code_85, z_this_size_86, z_this_values_87, z_this_tape_kind_88, z_this_tape_sign_89, z_this_tape_fault_90, z_this_tape_start_91, z_this_tape_stop_92)))) else (if v4_77 = 0 then (lt (v3_76 + (1 : Int32)) (fun v3_96 =>
some (.inl (z_this_code_85, z_this_size_86, z_this_values_87, z_this_tape_kind_88, z_this_tape_sign_89, z_this_tape_fault_90, z_this_tape_start_91, z_this_tape_stop_92, t0_78, v3_96)))) else (bnd2 (f6_emit z_this_code_85 z_this_size_86 (2 : Int32) (38 : Int32)) (fun z_this_code_97 z_this_size_98 =>
lt (v3_76 + (1 : Int32)) (fun v3_100 =>
some (.inl (z_this_code_97, z_this_size_98, z_this_values_87, z_this_tape_kind_88, z_this_tape_sign_89, z_this_tape_fault_90, z_this_tape_start_91, z_this_tape_stop_92, t0_78, v3_100))))))))

def f6_readTest_J77 (z_this_tape_bytes : Nat → Int32) (z_this_tape_length : Int32) (rc_f6_readFact : (Nat → Int32) → (Int32) → (Int32) → (Nat → Int32) → (Int32) → (Int32) → (Int32) → (Int32) → (Int32) → (Int32) → (Int32) → Option (Int32 × (Nat → Int32) × Int32 × Int32 × Int32 × Int32 × Int32 × Int32 × Int32)) (a1 : Int32) (z_this_code_57 : Nat → Int32) (z_this_size_58 : Int32) (z_this_values_59 : Int32) (z_this_tape_kind_60 : Int32) (z_this_tape_sign_61 : Int32) (z_this_tape_fault_62 : Int32) (z_this_tape_start_63 : Int32) (z_this_tape_stop_64 : Int32) (v3_65 : Int32) (v4_66 : Int32) : Option (((Nat → Int32) × Int32 × Int32 × Int32 × Int32 × Int32 × Int32 × Int32 × Int32 × Int32) ⊕ ((Int32 × (Nat → Int32) × Int32 × Int32 × Int32 × Int32 × Int32 × Int32 × Int32) ⊕ ((Nat → Int32) × Int32 × Int32 × Int32 × Int32 × Int32 × Int32 × Int32 × Int32))) :=
f6_readTest_J82 z_this_tape_bytes z_this_tape_length rc_f6_readFact a1 z_this_code_57 z_this_size_58 z_this_values_59 z_this_tape_kind_60 z_this_tape_sign_61 z_this_tape_fault_62 z_this_tape_start_63 z_this_tape_stop_64 v3_65 v4_66 (1 : Int32)

def f6_readTest_J68 (z_this_tape_bytes : Nat → Int32) (z_this_tape_length : Int32) (rc_f6_readFact : (Nat → Int32) → (Int32) → (Int32) → (Nat → Int32) → (Int32) → (Int32) → (Int32) → (Int32) → (Int32) → (Int32) → (Int32) → Option (Int32 × (Nat → Int32) × Int32 × Int32 × Int32 × Int32 × Int32 × Int32 × Int32)) (a1 : Int32) (z_this_code_41 : Nat → Int32) (z_this_size_42 : Int32) (z_this_values_43 : Int32) (z_this_tape_kind_44 : Int32) (z_this_tape_sign_45 : Int32) (z_this_tape_fault_46 : Int32) (z_this_tape_start_47 : Int32) (z_this_tape_stop_48 : Int32) (v2_49 : Int32) (v3_50 : Int32) (v4_51 : Int32) : Option (((Nat → Int32) × Int32 × Int32 × Int32 × Int32 × Int32 × Int32 × Int32 × Int32 × Int32) ⊕ ((Int32 × (Nat → Int32) × Int32 × Int32 × Int32 × Int32 × Int32 × Int32 × Int32) ⊕ ((Nat → Int32) × Int32 × Int32 × Int32 × Int32 × Int32 × Int32 × Int32 × Int32))) :=
if v2_49 = 0 then (if v4_51 = 0 then (f6_readTest_J77 z_this_tape_bytes z_this_tape_length rc_f6_readFact a1 z_this_code_41 z_this_size_42 z_this_values_43 z_this_tape_kind_44 z_this_tape_sign_45 z_this_tape_fault_46 z_this_tape_start_47 z_this_tape_stop_48 v3_50 v4_51) else (f6_readTest_J82 z_this_tape_bytes z_this_tape_length rc_f6_readFact a1 z_this_code_41 z_this_size_42 z_this_values_43 z_this_tape_kind_44 z_this_tape_sign_45 z_this_tape_fault_46 z_this_tape_start_47 z_this_tape_stop_48 v3_50 v4_51 (0 : Int32))) else (f6_readTest_J77 z_this_tape_bytes z_this_tape_length rc_f6_readFact a1 z_this_code_41 z_this_size_42 z_this_values_43 z_this_tape_kind_44 z_this_tape_sign_45 z_this_tape_fault_46 z_this_tape_start_47 z_this_tape_stop_48 v3_50 v4_51)

def f6_readTest_J52 (z_this_tape_bytes : Nat → Int32) (z_this_tape_length : Int32) (rc_f6_readFact : (Nat → Int32) → (Int32) → (Int32) → (Nat → Int32) → (Int32) → (Int32) → (Int32) → (Int32) → (Int32) → (Int32) → (Int32) → Option (Int32 × (Nat → Int32) × Int32 × Int32 × Int32 × Int32 × Int32 × Int32 × Int32)) (a1 : Int32) (z_this_code_26 : Nat → Int32) (z_this_size_27 : Int32) (z_this_values_28 : Int32) (z_this_tape_kind_29 : Int32) (z_this_tape_sign_30 : Int32) (z_this_tape_fault_31 : Int32) (z_this_tape_start_32 : Int32) (z_this_tape_stop_33 : Int32) (v2_34 : Int32) (v3_35 : Int32) (v4_36 : Int32) : Option (((Nat → Int32) × Int32 × Int32 × Int32 × Int32 × Int32 × Int32 × Int32 × Int32 × Int32) ⊕ ((Int32 × (Nat → Int32) × Int32 × Int32 × Int32 × Int32 × Int32 × Int32 × Int32) ⊕ ((Nat → Int32) × Int32 × Int32 × Int32 × Int32 × Int32 × Int32 × Int32 × Int32))) :=
if v4_36 = 0 then (if v2_34 = 0 then (f6_readTest_J68 z_this_tape_bytes z_this_tape_length rc_f6_readFact a1 z_this_code_26 z_this_size_27 z_this_values_28 z_this_tape_kind_29 z_this_tape_sign_30 z_this_tape_fault_31 z_this_tape_start_32 z_this_tape_stop_33 v2_34 v3_35 v4_36) else (bnd2 (f6_emit z_this_code_26 z_this_size_27 (2 : Int32) (124 : Int32)) (fun z_this_code_53 z_this_size_54 =>
f6_readTest_J68 z_this_tape_bytes z_this_tape_length rc_f6_readFact a1 z_this_code_53 z_this_size_54 z_this_values_28 z_this_tape_kind_29 z_this_tape_sign_30 z_this_tape_fault_31 z_this_tape_start_32 z_this_tape_stop_33 v2_34 v3_35 v4_36))) else (f6_readTest_J68 z_this_tape_bytes z_this_tape_length rc_f6_readFact a1 z_this_code_26 z_this_size_27 z_this_values_28 z_this_tape_kind_29 z_this_tape_sign_30 z_this_tape_fault_31 z_this_tape_start_32 z_this_tape_stop_33 v2_34 v3_35 v4_36)

def f6_readTest_B14 (z_this_tape_bytes : Nat → Int32) (z_this_tape_length : Int32) (rc_f6_readFact : (Nat → Int32) → (Int32) → (Int32) → (Nat → Int32) → (Int32) → (Int32) → (Int32) → (Int32) → (Int32) → (Int32) → (Int32) → Option (Int32 × (Nat → Int32) × Int32 × Int32 × Int32 × Int32 × Int32 × Int32 × Int32)) (a1 : Int32) (z_this_code_12 : Nat → Int32) (z_this_size_13 : Int32) (z_this_values_14 : Int32) (z_this_tape_kind_15 : Int32) (z_this_tape_sign_16 : Int32) (z_this_tape_fault_17 : Int32) (z_this_tape_start_18 : Int32) (z_this_tape_stop_19 : Int32) (v2_20 : Int32) (v3_21 : Int32) : Option (((Nat → Int32) × Int32 × Int32 × Int32 × Int32 × Int32 × Int32 × Int32 × Int32 × Int32) ⊕ ((Int32 × (Nat → Int32) × Int32 × Int32 × Int32 × Int32 × Int32 × Int32 × Int32) ⊕ ((Nat → Int32) × Int32 × Int32 × Int32 × Int32 × Int32 × Int32 × Int32 × Int32))) :=
if (400 : Int32) ≤ v3_21 then (some (.inr (.inr (z_this_code_12, z_this_size_13, z_this_values_14, z_this_tape_kind_15, z_this_tape_sign_16, z_this_tape_fault_17, z_this_tape_start_18, z_this_tape_stop_19, v2_20)))) else (bnd1 (f9_isAtWord z_this_tape_bytes z_this_tape_kind_15 z_this_tape_start_18 z_this_tape_stop_19 3) (fun r_23 =>
if r_23 = 0 then (bnd1 (f9_isAtWord z_this_tape_bytes z_this_tape_kind_15 z_this_tape_start_18 z_this_tape_stop_19 4) (fun r_37 =>
if r_37 = 0 then (some (.inr (.inr (z_this_code_12, z_this_size_13, z_this_values_14, z_this_tape_kind_15, z_this_tape_sign_16, z_this_tape_fault_17, z_this_tape_start_18, z_this_tape_stop_19, v2_20)))) else (f6_readTest_J52 z_this_tape_bytes z_this_tape_length rc_f6_readFact a1 z_this_code_12 z_this_size_13 z_this_values_14 z_this_tape_kind_15 z_this_tape_sign_16 z_this_tape_fault_17 z_this_tape_start_18 z_this_tape_stop_19 v2_20 v3_21 r_23))) else (f6_readTest_J52 z_this_tape_bytes z_this_tape_length rc_f6_readFact a1 z_this_code_12 z_this_size_13 z_this_values_14 z_this_tape_kind_15 z_this_tape_sign_16 z_this_tape_fault_17 z_this_tape_start_18 z_this_tape_stop_19 v2_20 v3_21 r_23)))

def f6_readTest (rc_f6_readFact : (Nat → Int32) → (Int32) → (Int32) → (Nat → Int32) → (Int32) → (Int32) → (Int32) → (Int32) → (Int32) → (Int32) → (Int32) → Option (Int32 × (Nat → Int32) × Int32 × Int32 × Int32 × Int32 × Int32 × Int32 × Int32)) (z_this_code : Nat → Int32) (z_this_size : Int32) (z_this_values : Int32) (z_this_tape_bytes : Nat → Int32) (z_this_tape_length : Int32) (z_this_tape_kind : Int32) (z_this_tape_sign : Int32) (z_this_tape_fault : Int32) (z_this_tape_start : Int32) (z_this_tape_stop : Int32) (a1 : Int32) : Option (Int32 × (Nat → Int32) × Int32 × Int32 × Int32 × Int32 × Int32 × Int32 × Int32) :=
bnd9 (rc_f6_readFact z_this_code z_this_size z_this_values z_this_tape_bytes z_this_tape_length z_this_tape_kind z_this_tape_sign z_this_tape_fault z_this_tape_start z_this_tape_stop a1) (fun r_1 z_this_code_2 z_this_size_3 z_this_values_4 z_this_tape_kind_5 z_this_tape_sign_6 z_this_tape_fault_7 z_this_tape_start_8 z_this_tape_stop_9 =>
if r_1 = 0 then (some ((0 : Int32), z_this_code_2, z_this_size_3, z_this_values_4, z_this_tape_kind_5, z_this_tape_sign_6, z_this_tape_fault_7, z_this_tape_start_8, z_this_tape_stop_9)) else (bndS9 (iter (fun (z : (Nat → Int32) × Int32 × Int32 × Int32 × Int32 × Int32 × Int32 × Int32 × Int32 × Int32) => f6_readTest_B14 z_this_tape_bytes z_this_tape_length rc_f6_readFact a1 z.1 z.2.1 z.2.2.1 z.2.2.2.1 z.2.2.2.2.1 z.2.2.2.2.2.1 z.2.2.2.2.2.2.1 z.2.2.2.2.2.2.2.1 z.2.2.2.2.2.2.2.2.1 z.2.2.2.2.2.2.2.2.2) FUEL (z_this_code_2, z_this_size_3, z_this_values_4, z_this_tape_kind_5, z_this_tape_sign_6, z_this_tape_fault_7, z_this_tape_start_8, z_this_tape_stop_9, (0 : Int32), (0 : Int32))) (fun q14 => some q14) (fun z_this_code_101 z_this_size_102 z_this_values_103 z_this_tape_kind_104 z_this_tape_sign_105 z_this_tape_fault_106 z_this_tape_start_107 z_this_tape_stop_108 v2_109 =>
if v2_109 = 0 then (some ((1 : Int32), z_this_code_101, z_this_size_102, z_this_values_103, z_this_tape_kind_104, z_this_tape_sign_105, z_this_tape_fault_106, z_this_tape_start_107, z_this_tape_stop_108)) else (bnd2 (f6_emit z_this_code_101 z_this_size_102 (2 : Int32) (124 : Int32)) (fun z_this_code_111 z_this_size_112 =>
some ((1 : Int32), z_this_code_111, z_this_size_112, z_this_values_103, z_this_tape_kind_104, z_this_tape_sign_105, z_this_tape_fault_106, z_this_tape_start_107, z_this_tape_stop_108))))))

def rm_f6_readFact (n : Nat) : Room := { frames := 24 + 3 * n, cells := 0, slots := 0, locals := 800 + n * 67 }
def rm_f6_readTest (n : Nat) : Room := { frames := 24 + 3 * n + 1, cells := 0, slots := 0, locals := 800 + n * 67 + 22 }
theorem hd_f6_readFact : yX6_readFact.cls = RX6 ∧ yX6_readFact.cls ≠ "java/lang/invoke/MethodHandle" ∧ yX6_readFact.cls ≠ "java/lang/invoke/VarHandle" ∧ (parseMethodDescriptor yX6_readFact.desc).map (fun d => d.parameters.length) = some 1 := by decide +kernel
theorem hd_f6_readTest : yX6_readTest.cls = RX6 ∧ yX6_readTest.cls ≠ "java/lang/invoke/MethodHandle" ∧ yX6_readTest.cls ≠ "java/lang/invoke/VarHandle" ∧ (parseMethodDescriptor yX6_readTest.desc).map (fun d => d.parameters.length) = some 1 := by decide +kernel
set_option maxHeartbeats 4000000 in
set_option maxRecDepth 100000 in
theorem c6_readTest {l : Launch} {D : va_G} {rc_f6_readFact : (Nat → Int32) → (Int32) → (Int32) → (Nat → Int32) → (Int32) → (Int32) → (Int32) → (Int32) → (Int32) → (Int32) → (Int32) → Option (Int32 × (Nat → Int32) × Int32 × Int32 × Int32 × Int32 × Int32 × Int32 × Int32)} (nn : Nat) (hrec : ∀ {adK : Nat → Nat} {adV : Nat → Nat} {ad_this : Nat → Nat} {cy_this : Nat → ClassId} {z_this_code : Nat → Int32} {z_this_sumEnd : Nat → Int32} {z_this_testEnd : Nat → Int32} {z_this_size : Int32} {z_this_clauses : Int32} {z_this_values : Int32} {ad_this_tape : Nat → Nat} {cy_this_tape : Nat → ClassId} {z_this_tape_bytes : Nat → Int32} {z_this_tape_length : Int32} {z_this_tape_kind : Int32} {z_this_tape_sign : Int32} {z_this_tape_fault : Int32} {z_this_tape_start : Int32} {z_this_tape_stop : Int32} {a1 : Int32} {o_ret : Int32} {o_this_code : Nat → Int32} {o_this_size : Int32} {o_this_values : Int32} {o_this_tape_kind : Int32} {o_this_tape_sign : Int32} {o_this_tape_fault : Int32} {o_this_tape_start : Int32} {o_this_tape_stop : Int32}, rc_f6_readFact z_this_code z_this_size z_this_values z_this_tape_bytes z_this_tape_length z_this_tape_kind z_this_tape_sign z_this_tape_fault z_this_tape_start z_this_tape_stop a1 = some (o_ret, o_this_code, o_this_size, o_this_values, o_this_tape_kind, o_this_tape_sign, o_this_tape_fault, o_this_tape_start, o_this_tape_stop) → MetIE l yX6_readFact cX6_readFact 3 (some .boolean) (rm_f6_readFact nn) D ([(cy_this 1, .int), (cy_this 2, .int), (cy_this 3, .int), (cy_this_tape 1, .int)]) (cRR ad_this cy_this (ad_this_tape 0) z_this_code z_this_sumEnd z_this_testEnd z_this_size z_this_clauses z_this_values ++ cTp ad_this_tape cy_this_tape z_this_tape_bytes z_this_tape_length z_this_tape_kind z_this_tape_sign z_this_tape_fault z_this_tape_start z_this_tape_stop) (cRR ad_this cy_this (ad_this_tape 0) o_this_code z_this_sumEnd z_this_testEnd o_this_size z_this_clauses o_this_values ++ cTp ad_this_tape cy_this_tape z_this_tape_bytes z_this_tape_length o_this_tape_kind o_this_tape_sign o_this_tape_fault o_this_tape_start o_this_tape_stop) [.ref (ad_this 0), .int a1] adK adV o_ret) {adK : Nat → Nat} {adV : Nat → Nat} {ad_this : Nat → Nat} {cy_this : Nat → ClassId} {z_this_code : Nat → Int32} {z_this_sumEnd : Nat → Int32} {z_this_testEnd : Nat → Int32} {z_this_size : Int32} {z_this_clauses : Int32} {z_this_values : Int32} {ad_this_tape : Nat → Nat} {cy_this_tape : Nat → ClassId} {z_this_tape_bytes : Nat → Int32} {z_this_tape_length : Int32} {z_this_tape_kind : Int32} {z_this_tape_sign : Int32} {z_this_tape_fault : Int32} {z_this_tape_start : Int32} {z_this_tape_stop : Int32} {a1 : Int32} {o_ret : Int32} {o_this_code : Nat → Int32} {o_this_size : Int32} {o_this_values : Int32} {o_this_tape_kind : Int32} {o_this_tape_sign : Int32} {o_this_tape_fault : Int32} {o_this_tape_start : Int32} {o_this_tape_stop : Int32} (h : f6_readTest rc_f6_readFact z_this_code z_this_size z_this_values z_this_tape_bytes z_this_tape_length z_this_tape_kind z_this_tape_sign z_this_tape_fault z_this_tape_start z_this_tape_stop a1 = some (o_ret, o_this_code, o_this_size, o_this_values, o_this_tape_kind, o_this_tape_sign, o_this_tape_fault, o_this_tape_start, o_this_tape_stop)) : MetIE l yX6_readTest cX6_readTest 5 (some .boolean) (rm_f6_readTest nn) D ([(cy_this 1, .int), (cy_this 2, .int), (cy_this 3, .int), (cy_this_tape 1, .int)]) (cRR ad_this cy_this (ad_this_tape 0) z_this_code z_this_sumEnd z_this_testEnd z_this_size z_this_clauses z_this_values ++ cTp ad_this_tape cy_this_tape z_this_tape_bytes z_this_tape_length z_this_tape_kind z_this_tape_sign z_this_tape_fault z_this_tape_start z_this_tape_stop) (cRR ad_this cy_this (ad_this_tape 0) o_this_code z_this_sumEnd z_this_testEnd o_this_size z_this_clauses o_this_values ++ cTp ad_this_tape cy_this_tape z_this_tape_bytes z_this_tape_length o_this_tape_kind o_this_tape_sign o_this_tape_fault o_this_tape_start o_this_tape_stop) [.ref (ad_this 0), .int a1] adK adV o_ret := by
  refine metIE_of (own := RX6) rfl (by decide) (Nat.le_of_ble_eq_true rfl) ?_
  intro p e s m args below meth c A Q ls S hK hA hP hD hS hl hE hret
  obtain ⟨hx, hb, hml, hown, hts⟩ := id S
  replace hl : lv_has ls 5 [(0, .ref (ad_this 0)), (1, .int a1)] := hl
  generalize hH : s.heap = H at hP ⊢
  replace hS : va_S A s.heap H [] := by rw [← hH]; exact hS
  generalize hlo : ([] : List Loc) = locs at hS ⊢
  unfold f6_readTest at h
  refine lv_aload_n hx hb dX6_readTest_0 rfl (lv_at hl 0 rfl) ?_
  refine lv_iload_n hx hb dX6_readTest_1 rfl (lv_at hl 1 rfl) ?_
  obtain ⟨r_1, z_this_code_2, z_this_size_3, z_this_values_4, z_this_tape_kind_5, z_this_tape_sign_6, z_this_tape_fault_7, z_this_tape_start_8, z_this_tape_stop_9, hc10, h⟩ := bnd9_el h
  refine mfV_iE (As := [.int a1]) (rest := []) (wc := cRR ad_this cy_this (ad_this_tape 0) z_this_code z_this_sumEnd z_this_testEnd z_this_size z_this_clauses z_this_values ++ cTp ad_this_tape cy_this_tape z_this_tape_bytes z_this_tape_length z_this_tape_kind z_this_tape_sign z_this_tape_fault z_this_tape_start z_this_tape_stop) (wr := []) (wf := cRR ad_this cy_this (ad_this_tape 0) z_this_code_2 z_this_sumEnd z_this_testEnd z_this_size_3 z_this_clauses z_this_values_4 ++ cTp ad_this_tape cy_this_tape z_this_tape_bytes z_this_tape_length z_this_tape_kind_5 z_this_tape_sign_6 z_this_tape_fault_7 z_this_tape_start_8 z_this_tape_stop_9) S hK hP hD hS hA hE (hrec hc10) [0, 1, 2, 3] [0, 1, 2, 3, 4, 5] [] [0, 1, 2, 3, 4, 5] rfl rfl rfl (by decide) (by decide) (by decide) rfl (by decide) (gdV mw_24_13 mw_24_14 mw_24_15 mw_2_1 mw_24_17) rfl rfl hd_f6_readFact ⟨(by show 24 + 3 * nn + 1 ≤ 24 + 3 * nn + 1; omega), (by show 8 + (3 + 11) + (800 + nn * 67) ≤ 800 + nn * 67 + 22; omega)⟩ (ci := 6) (q0 := 0) rfl rfl rfl hl.1 rfl (Nat.le_of_ble_eq_true rfl) dX6_readTest_2 (fun H locs hP hD hS => ?_)
  refine lv_if_ne (tgt := 10) hx hb dX6_readTest_5 rfl (fun c11 => ?_) (fun c11 => ?_)
  · replace h := ite_f c11 h
    refine lv_iconst (v := (0 : Int32)) hx hb dX6_readTest_10 (by decide) ?_
    refine lv_istore_n (lv' := [(2, .int (0 : Int32)), (0, .ref (ad_this 0)), (1, .int a1)]) hx hb dX6_readTest_11 rfl hl (by decide) rfl (fun ls hl => ?_)
    refine lv_iconst (v := (0 : Int32)) hx hb dX6_readTest_12 (by decide) ?_
    refine lv_istore_n (lv' := [(3, .int (0 : Int32)), (2, .int (0 : Int32)), (0, .ref (ad_this 0)), (1, .int a1)]) hx hb dX6_readTest_13 rfl hl (by decide) rfl (fun ls hl => ?_)
    have B14 : ∀ (z_this_code_12 : Nat → Int32) (z_this_size_13 : Int32) (z_this_values_14 : Int32) (z_this_tape_kind_15 : Int32) (z_this_tape_sign_16 : Int32) (z_this_tape_fault_17 : Int32) (z_this_tape_start_18 : Int32) (z_this_tape_stop_19 : Int32) (v2_20 : Int32) (v3_21 : Int32) (r : ((Nat → Int32) × Int32 × Int32 × Int32 × Int32 × Int32 × Int32 × Int32 × Int32 × Int32) ⊕ ((Int32 × (Nat → Int32) × Int32 × Int32 × Int32 × Int32 × Int32 × Int32 × Int32) ⊕ ((Nat → Int32) × Int32 × Int32 × Int32 × Int32 × Int32 × Int32 × Int32 × Int32))) (H : Heap) (locs : List Loc) (ls : Array Slot), f6_readTest_B14 z_this_tape_bytes z_this_tape_length rc_f6_readFact a1 z_this_code_12 z_this_size_13 z_this_values_14 z_this_tape_kind_15 z_this_tape_sign_16 z_this_tape_fault_17 z_this_tape_start_18 z_this_tape_stop_19 v2_20 v3_21 = some r → va_P D vwCl (cRR ad_this cy_this (ad_this_tape 0) z_this_code_12 z_this_sumEnd z_this_testEnd z_this_size_13 z_this_clauses z_this_values_14 ++ cTp ad_this_tape cy_this_tape z_this_tape_bytes z_this_tape_length z_this_tape_kind_15 z_this_tape_sign_16 z_this_tape_fault_17 z_this_tape_start_18 z_this_tape_stop_19) H → va_D A (cRR ad_this cy_this (ad_this_tape 0) z_this_code_12 z_this_sumEnd z_this_testEnd z_this_size_13 z_this_clauses z_this_values_14 ++ cTp ad_this_tape cy_this_tape z_this_tape_bytes z_this_tape_length z_this_tape_kind_15 z_this_tape_sign_16 z_this_tape_fault_17 z_this_tape_start_18 z_this_tape_stop_19) → va_S A s.heap H locs → lv_has ls 5 [(0, .ref (ad_this 0)), (1, .int a1), (2, .int v2_20), (3, .int v3_21)] → (∀ (z_this_code_12 : Nat → Int32) (z_this_size_13 : Int32) (z_this_values_14 : Int32) (z_this_tape_kind_15 : Int32) (z_this_tape_sign_16 : Int32) (z_this_tape_fault_17 : Int32) (z_this_tape_start_18 : Int32) (z_this_tape_stop_19 : Int32) (v2_20 : Int32) (v3_21 : Int32), r = .inl (z_this_code_12, z_this_size_13, z_this_values_14, z_this_tape_kind_15, z_this_tape_sign_16, z_this_tape_fault_17, z_this_tape_start_18, z_this_tape_stop_19, v2_20, v3_21) → ∀ (H : Heap) (locs : List Loc) (ls : Array Slot), va_P D vwCl (cRR ad_this cy_this (ad_this_tape 0) z_this_code_12 z_this_sumEnd z_this_testEnd z_this_size_13 z_this_clauses z_this_values_14 ++ cTp ad_this_tape cy_this_tape z_this_tape_bytes z_this_tape_length z_this_tape_kind_15 z_this_tape_sign_16 z_this_tape_fault_17 z_this_tape_start_18 z_this_tape_stop_19) H → va_D A (cRR ad_this cy_this (ad_this_tape 0) z_this_code_12 z_this_sumEnd z_this_testEnd z_this_size_13 z_this_clauses z_this_values_14 ++ cTp ad_this_tape cy_this_tape z_this_tape_bytes z_this_tape_length z_this_tape_kind_15 z_this_tape_sign_16 z_this_tape_fault_17 z_this_tape_start_18 z_this_tape_stop_19) → va_S A s.heap H locs → lv_has ls 5 [(0, .ref (ad_this 0)), (1, .int a1), (2, .int v2_20), (3, .int v3_21)] → W p l e (rm_f6_readTest nn) s m args below meth c H locs 0 0 Q (F0 m 14 ls [])) → (∀ (z_this_code_101 : Nat → Int32) (z_this_size_102 : Int32) (z_this_values_103 : Int32) (z_this_tape_kind_104 : Int32) (z_this_tape_sign_105 : Int32) (z_this_tape_fault_106 : Int32) (z_this_tape_start_107 : Int32) (z_this_tape_stop_108 : Int32) (v2_109 : Int32), r = .inr (.inr (z_this_code_101, z_this_size_102, z_this_values_103, z_this_tape_kind_104, z_this_tape_sign_105, z_this_tape_fault_106, z_this_tape_start_107, z_this_tape_stop_108, v2_109)) → ∀ (H : Heap) (locs : List Loc) (ls : Array Slot), va_P D vwCl (cRR ad_this cy_this (ad_this_tape 0) z_this_code_101 z_this_sumEnd z_this_testEnd z_this_size_102 z_this_clauses z_this_values_103 ++ cTp ad_this_tape cy_this_tape z_this_tape_bytes z_this_tape_length z_this_tape_kind_104 z_this_tape_sign_105 z_this_tape_fault_106 z_this_tape_start_107 z_this_tape_stop_108) H → va_D A (cRR ad_this cy_this (ad_this_tape 0) z_this_code_101 z_this_sumEnd z_this_testEnd z_this_size_102 z_this_clauses z_this_values_103 ++ cTp ad_this_tape cy_this_tape z_this_tape_bytes z_this_tape_length z_this_tape_kind_104 z_this_tape_sign_105 z_this_tape_fault_106 z_this_tape_start_107 z_this_tape_stop_108) → va_S A s.heap H locs → lv_has ls 5 [(0, .ref (ad_this 0)), (2, .int v2_109)] → W p l e (rm_f6_readTest nn) s m args below meth c H locs 0 0 Q (F0 m 118 ls [])) → (∀ q, r = .inr (.inl q) → q = (o_ret, o_this_code, o_this_size, o_this_values, o_this_tape_kind, o_this_tape_sign, o_this_tape_fault, o_this_tape_start, o_this_tape_stop)) → W p l e (rm_f6_readTest nn) s m args below meth c H locs 0 0 Q (F0 m 14 ls []) := by
      intro z_this_code_12 z_this_size_13 z_this_values_14 z_this_tape_kind_15 z_this_tape_sign_16 z_this_tape_fault_17 z_this_tape_start_18 z_this_tape_stop_19 v2_20 v3_21 r H locs ls h hP hD hS hl kl kx kr
      unfold f6_readTest_B14 at h
      have J82 : ∀ (z_this_code_68 : Nat → Int32) (z_this_size_69 : Int32) (z_this_values_70 : Int32) (z_this_tape_kind_71 : Int32) (z_this_tape_sign_72 : Int32) (z_this_tape_fault_73 : Int32) (z_this_tape_start_74 : Int32) (z_this_tape_stop_75 : Int32) (v3_76 : Int32) (v4_77 : Int32) (t0_78 : Int32) (H : Heap) (locs : List Loc) (ls : Array Slot), f6_readTest_J82 z_this_tape_bytes z_this_tape_length rc_f6_readFact a1 z_this_code_68 z_this_size_69 z_this_values_70 z_this_tape_kind_71 z_this_tape_sign_72 z_this_tape_fault_73 z_this_tape_start_74 z_this_tape_stop_75 v3_76 v4_77 t0_78 = some r → va_P D vwCl (cRR ad_this cy_this (ad_this_tape 0) z_this_code_68 z_this_sumEnd z_this_testEnd z_this_size_69 z_this_clauses z_this_values_70 ++ cTp ad_this_tape cy_this_tape z_this_tape_bytes z_this_tape_length z_this_tape_kind_71 z_this_tape_sign_72 z_this_tape_fault_73 z_this_tape_start_74 z_this_tape_stop_75) H → va_D A (cRR ad_this cy_this (ad_this_tape 0) z_this_code_68 z_this_sumEnd z_this_testEnd z_this_size_69 z_this_clauses z_this_values_70 ++ cTp ad_this_tape cy_this_tape z_this_tape_bytes z_this_tape_length z_this_tape_kind_71 z_this_tape_sign_72 z_this_tape_fault_73 z_this_tape_start_74 z_this_tape_stop_75) → va_S A s.heap H locs → lv_has ls 5 [(0, .ref (ad_this 0)), (1, .int a1), (3, .int v3_76), (4, .int v4_77)] → W p l e (rm_f6_readTest nn) s m args below meth c H locs 0 0 Q (F0 m 82 ls [.int t0_78]) := by
        intro z_this_code_68 z_this_size_69 z_this_values_70 z_this_tape_kind_71 z_this_tape_sign_72 z_this_tape_fault_73 z_this_tape_start_74 z_this_tape_stop_75 v3_76 v4_77 t0_78 H locs ls h hP hD hS hl
        unfold f6_readTest_J82 at h
        refine lv_istore_n (lv' := [(2, .int t0_78), (0, .ref (ad_this 0)), (1, .int a1), (3, .int v3_76), (4, .int v4_77)]) hx hb dX6_readTest_82 rfl hl (by decide) rfl (fun ls hl => ?_)
        refine lv_aload_n hx hb dX6_readTest_83 rfl (lv_at hl 1 rfl) ?_
        refine va_get (ci := 6) (v := .ref (ad_this_tape 0)) (C := RX6) (T := TX6) (N := 7) hx hb hts inlX6 hown hK hP 0 rfl rfl 0 (by decide) (hts _ mw_4_14) (fun _ h9 => h9) rfl dX6_readTest_84 ?_
        obtain ⟨z_this_tape_kind_79, z_this_tape_sign_80, z_this_tape_start_81, z_this_tape_stop_82, hc83, h⟩ := bnd4_el h
        refine mfV_v (As := []) (rest := []) (wc := cTp ad_this_tape cy_this_tape z_this_tape_bytes z_this_tape_length z_this_tape_kind_71 z_this_tape_sign_72 z_this_tape_fault_73 z_this_tape_start_74 z_this_tape_stop_75) (wr := cRR ad_this cy_this (ad_this_tape 0) z_this_code_68 z_this_sumEnd z_this_testEnd z_this_size_69 z_this_clauses z_this_values_70) (wf := cRR ad_this cy_this (ad_this_tape 0) z_this_code_68 z_this_sumEnd z_this_testEnd z_this_size_69 z_this_clauses z_this_values_70 ++ cTp ad_this_tape cy_this_tape z_this_tape_bytes z_this_tape_length z_this_tape_kind_79 z_this_tape_sign_80 z_this_tape_fault_73 z_this_tape_start_81 z_this_tape_stop_82) S hK hP hD hS hA (c9_advance hc83) [3] [4, 5] [0, 1, 2, 3] [0, 1, 2, 3, 4, 5] rfl rfl rfl (by decide) (by decide) (by decide) rfl (by decide) (gdV mw_23_12 mw_10_1 mw_10_2 mw_1_17 mw_10_3) rfl rfl hd_f9_advance ⟨(by show 0 + 1 ≤ 24 + 3 * nn + 1; omega), (by show 8 + (4 + 11) + (0) ≤ 800 + nn * 67 + 22; omega)⟩ (ci := 9) (q0 := 0) rfl rfl rfl hl.1 rfl (Nat.le_of_ble_eq_true rfl) dX6_readTest_87 (fun H locs hP hD hS => ?_)
        refine lv_aload_n hx hb dX6_readTest_90 rfl (lv_at hl 1 rfl) ?_
        refine lv_iload_n hx hb dX6_readTest_91 rfl (lv_at hl 2 rfl) ?_
        obtain ⟨r_84, z_this_code_85, z_this_size_86, z_this_values_87, z_this_tape_kind_88, z_this_tape_sign_89, z_this_tape_fault_90, z_this_tape_start_91, z_this_tape_stop_92, hc93, h⟩ := bnd9_el h
        refine mfV_iE (As := [.int a1]) (rest := []) (wc := cRR ad_this cy_this (ad_this_tape 0) z_this_code_68 z_this_sumEnd z_this_testEnd z_this_size_69 z_this_clauses z_this_values_70 ++ cTp ad_this_tape cy_this_tape z_this_tape_bytes z_this_tape_length z_this_tape_kind_79 z_this_tape_sign_80 z_this_tape_fault_73 z_this_tape_start_81 z_this_tape_stop_82) (wr := []) (wf := cRR ad_this cy_this (ad_this_tape 0) z_this_code_85 z_this_sumEnd z_this_testEnd z_this_size_86 z_this_clauses z_this_values_87 ++ cTp ad_this_tape cy_this_tape z_this_tape_bytes z_this_tape_length z_this_tape_kind_88 z_this_tape_sign_89 z_this_tape_fault_90 z_this_tape_start_91 z_this_tape_stop_92) S hK hP hD hS hA hE (hrec hc93) [0, 1, 2, 3] [0, 1, 2, 3, 4, 5] [] [0, 1, 2, 3, 4, 5] rfl rfl rfl (by decide) (by decide) (by decide) rfl (by decide) (gdV mw_24_13 mw_24_14 mw_24_15 mw_2_1 mw_24_17) rfl rfl hd_f6_readFact ⟨(by show 24 + 3 * nn + 1 ≤ 24 + 3 * nn + 1; omega), (by show 8 + (3 + 11) + (800 + nn * 67) ≤ 800 + nn * 67 + 22; omega)⟩ (ci := 6) (q0 := 0) rfl rfl rfl hl.1 rfl (Nat.le_of_ble_eq_true rfl) dX6_readTest_92 (fun H locs hP hD hS => ?_)
        refine lv_if_ne (tgt := 100) hx hb dX6_readTest_95 rfl (fun c94 => ?_) (fun c94 => ?_)
        · replace h := ite_f c94 h
          refine lv_iload hx hb dX6_readTest_100 (lv_at hl 4 rfl) ?_
          refine lv_if_eq (tgt := 112) hx hb dX6_readTest_102 rfl (fun c95 => ?_) (fun c95 => ?_)
          · replace h := ite_t c95 h
            obtain ⟨v3_96, ev3_96, h⟩ := lt_el h
            refine lv_iinc (v := v3_96) (lv' := [(3, .int v3_96), (2, .int t0_78), (0, .ref (ad_this 0)), (1, .int a1), (4, .int v4_77)]) hx hb dX6_readTest_112 hl (k := 3) rfl (by rw [ev3_96]; rfl) (by decide) rfl (fun ls hl => ?_)
            refine lv_goto (tgt := 14) hx hb dX6_readTest_115 rfl ?_
            cases h
            exact kl _ _ _ _ _ _ _ _ _ _ rfl H locs ls hP hD hS (lv_sub hl [2, 3, 1, 0] rfl)
          · replace h := ite_f c95 h
            refine lv_aload_n hx hb dX6_readTest_105 rfl (lv_at hl 1 rfl) ?_
            refine lv_iconst (v := (2 : Int32)) hx hb dX6_readTest_106 (by decide) ?_
            refine lv_bipush (v := (38 : Int32)) hx hb dX6_readTest_107 (by decide) ?_
            obtain ⟨z_this_code_97, z_this_size_98, hc99, h⟩ := bnd2_el h
            refine mfV_v (As := [.int (2 : Int32), .int (38 : Int32)]) (rest := []) (wc := cRR ad_this cy_this (ad_this_tape 0) z_this_code_85 z_this_sumEnd z_this_testEnd z_this_size_86 z_this_clauses z_this_values_87) (wr := cTp ad_this_tape cy_this_tape z_this_tape_bytes z_this_tape_length z_this_tape_kind_88 z_this_tape_sign_89 z_this_tape_fault_90 z_this_tape_start_91 z_this_tape_stop_92) (wf := cRR ad_this cy_this (ad_this_tape 0) z_this_code_97 z_this_sumEnd z_this_testEnd z_this_size_98 z_this_clauses z_this_values_87 ++ cTp ad_this_tape cy_this_tape z_this_tape_bytes z_this_tape_length z_this_tape_kind_88 z_this_tape_sign_89 z_this_tape_fault_90 z_this_tape_start_91 z_this_tape_stop_92) S hK hP hD hS hA (c6_emit hc99) [0, 1, 2] [0, 1, 2, 3] [4, 5] [2, 3, 4, 5, 0, 1] rfl rfl rfl (by decide) (by decide) (by decide) rfl (by decide) (gdV mw_24_0 mw_24_1 mw_24_2 mw_2_1 mw_24_3) rfl rfl hd_f6_emit ⟨(by show 0 + 1 ≤ 24 + 3 * nn + 1; omega), (by show 8 + (3 + 11) + (0) ≤ 800 + nn * 67 + 22; omega)⟩ (ci := 6) (q0 := 0) rfl rfl rfl hl.1 rfl (Nat.le_of_ble_eq_true rfl) dX6_readTest_109 (fun H locs hP hD hS => ?_)
            obtain ⟨v3_100, ev3_100, h⟩ := lt_el h
            refine lv_iinc (v := v3_100) (lv' := [(3, .int v3_100), (2, .int t0_78), (0, .ref (ad_this 0)), (1, .int a1), (4, .int v4_77)]) hx hb dX6_readTest_112 hl (k := 3) rfl (by rw [ev3_100]; rfl) (by decide) rfl (fun ls hl => ?_)
            refine lv_goto (tgt := 14) hx hb dX6_readTest_115 rfl ?_
            cases h
            exact kl _ _ _ _ _ _ _ _ _ _ rfl H locs ls hP hD hS (lv_sub hl [2, 3, 1, 0] rfl)
        · replace h := ite_t c94 h
          refine lv_iconst (v := (0 : Int32)) hx hb dX6_readTest_98 (by decide) ?_
          cases h
          obtain ⟨e_0, e_1, e_2, e_3, e_4, e_5, e_6, e_7, e_8⟩ := jnj9 (kr _ rfl)
          subst e_0
          subst e_1
          subst e_2
          subst e_3
          subst e_4
          subst e_5
          subst e_6
          subst e_7
          subst e_8
          exact hret _ _ _ _ _ hP hD hS rfl nz0 dX6_readTest_99
      have J77 : ∀ (z_this_code_57 : Nat → Int32) (z_this_size_58 : Int32) (z_this_values_59 : Int32) (z_this_tape_kind_60 : Int32) (z_this_tape_sign_61 : Int32) (z_this_tape_fault_62 : Int32) (z_this_tape_start_63 : Int32) (z_this_tape_stop_64 : Int32) (v3_65 : Int32) (v4_66 : Int32) (H : Heap) (locs : List Loc) (ls : Array Slot), f6_readTest_J77 z_this_tape_bytes z_this_tape_length rc_f6_readFact a1 z_this_code_57 z_this_size_58 z_this_values_59 z_this_tape_kind_60 z_this_tape_sign_61 z_this_tape_fault_62 z_this_tape_start_63 z_this_tape_stop_64 v3_65 v4_66 = some r → va_P D vwCl (cRR ad_this cy_this (ad_this_tape 0) z_this_code_57 z_this_sumEnd z_this_testEnd z_this_size_58 z_this_clauses z_this_values_59 ++ cTp ad_this_tape cy_this_tape z_this_tape_bytes z_this_tape_length z_this_tape_kind_60 z_this_tape_sign_61 z_this_tape_fault_62 z_this_tape_start_63 z_this_tape_stop_64) H → va_D A (cRR ad_this cy_this (ad_this_tape 0) z_this_code_57 z_this_sumEnd z_this_testEnd z_this_size_58 z_this_clauses z_this_values_59 ++ cTp ad_this_tape cy_this_tape z_this_tape_bytes z_this_tape_length z_this_tape_kind_60 z_this_tape_sign_61 z_this_tape_fault_62 z_this_tape_start_63 z_this_tape_stop_64) → va_S A s.heap H locs → lv_has ls 5 [(0, .ref (ad_this 0)), (1, .int a1), (3, .int v3_65), (4, .int v4_66)] → W p l e (rm_f6_readTest nn) s m args below meth c H locs 0 0 Q (F0 m 77 ls []) := by
        intro z_this_code_57 z_this_size_58 z_this_values_59 z_this_tape_kind_60 z_this_tape_sign_61 z_this_tape_fault_62 z_this_tape_start_63 z_this_tape_stop_64 v3_65 v4_66 H locs ls h hP hD hS hl
        unfold f6_readTest_J77 at h
        refine lv_iconst (v := (1 : Int32)) hx hb dX6_readTest_77 (by decide) ?_
        refine lv_goto (tgt := 82) hx hb dX6_readTest_78 rfl ?_
        exact J82 z_this_code_57 z_this_size_58 z_this_values_59 z_this_tape_kind_60 z_this_tape_sign_61 z_this_tape_fault_62 z_this_tape_start_63 z_this_tape_stop_64 v3_65 v4_66 (1 : Int32) H locs ls h hP hD hS (lv_sub hl [0, 1, 2, 3] rfl)
      have J68 : ∀ (z_this_code_41 : Nat → Int32) (z_this_size_42 : Int32) (z_this_values_43 : Int32) (z_this_tape_kind_44 : Int32) (z_this_tape_sign_45 : Int32) (z_this_tape_fault_46 : Int32) (z_this_tape_start_47 : Int32) (z_this_tape_stop_48 : Int32) (v2_49 : Int32) (v3_50 : Int32) (v4_51 : Int32) (H : Heap) (locs : List Loc) (ls : Array Slot), f6_readTest_J68 z_this_tape_bytes z_this_tape_length rc_f6_readFact a1 z_this_code_41 z_this_size_42 z_this_values_43 z_this_tape_kind_44 z_this_tape_sign_45 z_this_tape_fault_46 z_this_tape_start_47 z_this_tape_stop_48 v2_49 v3_50 v4_51 = some r → va_P D vwCl (cRR ad_this cy_this (ad_this_tape 0) z_this_code_41 z_this_sumEnd z_this_testEnd z_this_size_42 z_this_clauses z_this_values_43 ++ cTp ad_this_tape cy_this_tape z_this_tape_bytes z_this_tape_length z_this_tape_kind_44 z_this_tape_sign_45 z_this_tape_fault_46 z_this_tape_start_47 z_this_tape_stop_48) H → va_D A (cRR ad_this cy_this (ad_this_tape 0) z_this_code_41 z_this_sumEnd z_this_testEnd z_this_size_42 z_this_clauses z_this_values_43 ++ cTp ad_this_tape cy_this_tape z_this_tape_bytes z_this_tape_length z_this_tape_kind_44 z_this_tape_sign_45 z_this_tape_fault_46 z_this_tape_start_47 z_this_tape_stop_48) → va_S A s.heap H locs → lv_has ls 5 [(0, .ref (ad_this 0)), (1, .int a1), (2, .int v2_49), (3, .int v3_50), (4, .int v4_51)] → W p l e (rm_f6_readTest nn) s m args below meth c H locs 0 0 Q (F0 m 68 ls []) := by
        intro z_this_code_41 z_this_size_42 z_this_values_43 z_this_tape_kind_44 z_this_tape_sign_45 z_this_tape_fault_46 z_this_tape_start_47 z_this_tape_stop_48 v2_49 v3_50 v4_51 H locs ls h hP hD hS hl
        unfold f6_readTest_J68 at h
        refine lv_iload_n hx hb dX6_readTest_68 rfl (lv_at hl 2 rfl) ?_
        refine lv_if_ne (tgt := 77) hx hb dX6_readTest_69 rfl (fun c56 => ?_) (fun c56 => ?_)
        · replace h := ite_f c56 h
          exact J77 z_this_code_41 z_this_size_42 z_this_values_43 z_this_tape_kind_44 z_this_tape_sign_45 z_this_tape_fault_46 z_this_tape_start_47 z_this_tape_stop_48 v3_50 v4_51 H locs ls h hP hD hS (lv_sub hl [0, 1, 3, 4] rfl)
        · replace h := ite_t c56 h
          refine lv_iload hx hb dX6_readTest_72 (lv_at hl 4 rfl) ?_
          refine lv_if_ne (tgt := 81) hx hb dX6_readTest_74 rfl (fun c67 => ?_) (fun c67 => ?_)
          · replace h := ite_f c67 h
            refine lv_iconst (v := (0 : Int32)) hx hb dX6_readTest_81 (by decide) ?_
            exact J82 z_this_code_41 z_this_size_42 z_this_values_43 z_this_tape_kind_44 z_this_tape_sign_45 z_this_tape_fault_46 z_this_tape_start_47 z_this_tape_stop_48 v3_50 v4_51 (0 : Int32) H locs ls h hP hD hS (lv_sub hl [0, 1, 3, 4] rfl)
          · replace h := ite_t c67 h
            exact J77 z_this_code_41 z_this_size_42 z_this_values_43 z_this_tape_kind_44 z_this_tape_sign_45 z_this_tape_fault_46 z_this_tape_start_47 z_this_tape_stop_48 v3_50 v4_51 H locs ls h hP hD hS (lv_sub hl [0, 1, 3, 4] rfl)
      have J52 : ∀ (z_this_code_26 : Nat → Int32) (z_this_size_27 : Int32) (z_this_values_28 : Int32) (z_this_tape_kind_29 : Int32) (z_this_tape_sign_30 : Int32) (z_this_tape_fault_31 : Int32) (z_this_tape_start_32 : Int32) (z_this_tape_stop_33 : Int32) (v2_34 : Int32) (v3_35 : Int32) (v4_36 : Int32) (H : Heap) (locs : List Loc) (ls : Array Slot), f6_readTest_J52 z_this_tape_bytes z_this_tape_length rc_f6_readFact a1 z_this_code_26 z_this_size_27 z_this_values_28 z_this_tape_kind_29 z_this_tape_sign_30 z_this_tape_fault_31 z_this_tape_start_32 z_this_tape_stop_33 v2_34 v3_35 v4_36 = some r → va_P D vwCl (cRR ad_this cy_this (ad_this_tape 0) z_this_code_26 z_this_sumEnd z_this_testEnd z_this_size_27 z_this_clauses z_this_values_28 ++ cTp ad_this_tape cy_this_tape z_this_tape_bytes z_this_tape_length z_this_tape_kind_29 z_this_tape_sign_30 z_this_tape_fault_31 z_this_tape_start_32 z_this_tape_stop_33) H → va_D A (cRR ad_this cy_this (ad_this_tape 0) z_this_code_26 z_this_sumEnd z_this_testEnd z_this_size_27 z_this_clauses z_this_values_28 ++ cTp ad_this_tape cy_this_tape z_this_tape_bytes z_this_tape_length z_this_tape_kind_29 z_this_tape_sign_30 z_this_tape_fault_31 z_this_tape_start_32 z_this_tape_stop_33) → va_S A s.heap H locs → lv_has ls 5 [(0, .ref (ad_this 0)), (1, .int a1), (2, .int v2_34), (3, .int v3_35), (4, .int v4_36)] → W p l e (rm_f6_readTest nn) s m args below meth c H locs 0 0 Q (F0 m 52 ls []) := by
        intro z_this_code_26 z_this_size_27 z_this_values_28 z_this_tape_kind_29 z_this_tape_sign_30 z_this_tape_fault_31 z_this_tape_start_32 z_this_tape_stop_33 v2_34 v3_35 v4_36 H locs ls h hP hD hS hl
        unfold f6_readTest_J52 at h
        refine lv_iload hx hb dX6_readTest_52 (lv_at hl 4 rfl) ?_
        refine lv_if_ne (tgt := 68) hx hb dX6_readTest_54 rfl (fun c40 => ?_) (fun c40 => ?_)
        · replace h := ite_f c40 h
          exact J68 z_this_code_26 z_this_size_27 z_this_values_28 z_this_tape_kind_29 z_this_tape_sign_30 z_this_tape_fault_31 z_this_tape_start_32 z_this_tape_stop_33 v2_34 v3_35 v4_36 H locs ls h hP hD hS (lv_sub hl [0, 1, 2, 3, 4] rfl)
        · replace h := ite_t c40 h
          refine lv_iload_n hx hb dX6_readTest_57 rfl (lv_at hl 2 rfl) ?_
          refine lv_if_eq (tgt := 68) hx hb dX6_readTest_58 rfl (fun c52 => ?_) (fun c52 => ?_)
          · replace h := ite_t c52 h
            exact J68 z_this_code_26 z_this_size_27 z_this_values_28 z_this_tape_kind_29 z_this_tape_sign_30 z_this_tape_fault_31 z_this_tape_start_32 z_this_tape_stop_33 v2_34 v3_35 v4_36 H locs ls h hP hD hS (lv_sub hl [0, 1, 2, 3, 4] rfl)
          · replace h := ite_f c52 h
            refine lv_aload_n hx hb dX6_readTest_61 rfl (lv_at hl 0 rfl) ?_
            refine lv_iconst (v := (2 : Int32)) hx hb dX6_readTest_62 (by decide) ?_
            refine lv_bipush (v := (124 : Int32)) hx hb dX6_readTest_63 (by decide) ?_
            obtain ⟨z_this_code_53, z_this_size_54, hc55, h⟩ := bnd2_el h
            refine mfV_v (As := [.int (2 : Int32), .int (124 : Int32)]) (rest := []) (wc := cRR ad_this cy_this (ad_this_tape 0) z_this_code_26 z_this_sumEnd z_this_testEnd z_this_size_27 z_this_clauses z_this_values_28) (wr := cTp ad_this_tape cy_this_tape z_this_tape_bytes z_this_tape_length z_this_tape_kind_29 z_this_tape_sign_30 z_this_tape_fault_31 z_this_tape_start_32 z_this_tape_stop_33) (wf := cRR ad_this cy_this (ad_this_tape 0) z_this_code_53 z_this_sumEnd z_this_testEnd z_this_size_54 z_this_clauses z_this_values_28 ++ cTp ad_this_tape cy_this_tape z_this_tape_bytes z_this_tape_length z_this_tape_kind_29 z_this_tape_sign_30 z_this_tape_fault_31 z_this_tape_start_32 z_this_tape_stop_33) S hK hP hD hS hA (c6_emit hc55) [0, 1, 2] [0, 1, 2, 3] [4, 5] [2, 3, 4, 5, 0, 1] rfl rfl rfl (by decide) (by decide) (by decide) rfl (by decide) (gdV mw_24_0 mw_24_1 mw_24_2 mw_2_1 mw_24_3) rfl rfl hd_f6_emit ⟨(by show 0 + 1 ≤ 24 + 3 * nn + 1; omega), (by show 8 + (3 + 11) + (0) ≤ 800 + nn * 67 + 22; omega)⟩ (ci := 6) (q0 := 0) rfl rfl rfl hl.1 rfl (Nat.le_of_ble_eq_true rfl) dX6_readTest_65 (fun H locs hP hD hS => ?_)
            exact J68 z_this_code_53 z_this_size_54 z_this_values_28 z_this_tape_kind_29 z_this_tape_sign_30 z_this_tape_fault_31 z_this_tape_start_32 z_this_tape_stop_33 v2_34 v3_35 v4_36 H locs ls h hP hD hS (lv_sub hl [0, 1, 2, 3, 4] rfl)
      refine lv_iload_n hx hb dX6_readTest_14 rfl (lv_at hl 3 rfl) ?_
      refine lv_sipush (v := (400 : Int32)) hx hb dX6_readTest_15 (by decide) ?_
      refine lv_icmp_ge (tgt := 118) hx hb dX6_readTest_18 rfl (fun c22 => ?_) (fun c22 => ?_)
      · replace h := ite_t c22 h
        cases h
        exact kx _ _ _ _ _ _ _ _ _ rfl H locs ls hP hD hS (lv_sub hl [0, 2] rfl)
      · replace h := ite_f c22 h
        refine lv_aload_n hx hb dX6_readTest_21 rfl (lv_at hl 0 rfl) ?_
        refine va_get (ci := 6) (v := .ref (ad_this_tape 0)) (C := RX6) (T := TX6) (N := 7) hx hb hts inlX6 hown hK hP 0 rfl rfl 0 (by decide) (hts _ mw_4_14) (fun _ h9 => h9) rfl dX6_readTest_22 ?_
        refine va_ldcS hx hb hown hE.2.2.2.2.2.2.1 dX6_readTest_25 ?_
        obtain ⟨r_23, hc24, h⟩ := bnd1_el h
        refine mfV_iE (As := [.ref (adK 3)]) (rest := []) (wc := cTp ad_this_tape cy_this_tape z_this_tape_bytes z_this_tape_length z_this_tape_kind_15 z_this_tape_sign_16 z_this_tape_fault_17 z_this_tape_start_18 z_this_tape_stop_19) (wr := cRR ad_this cy_this (ad_this_tape 0) z_this_code_12 z_this_sumEnd z_this_testEnd z_this_size_13 z_this_clauses z_this_values_14) (wf := cRR ad_this cy_this (ad_this_tape 0) z_this_code_12 z_this_sumEnd z_this_testEnd z_this_size_13 z_this_clauses z_this_values_14 ++ cTp ad_this_tape cy_this_tape z_this_tape_bytes z_this_tape_length z_this_tape_kind_15 z_this_tape_sign_16 z_this_tape_fault_17 z_this_tape_start_18 z_this_tape_stop_19) S hK hP hD hS hA hE (c9_isAtWord hc24 (by decide)) [3] [4, 5] [0, 1, 2, 3] [0, 1, 2, 3, 4, 5] rfl rfl rfl (by decide) (by decide) (by decide) rfl (by decide) (gdV mw_23_6 mw_23_7 mw_23_8 mw_1_17 mw_23_9) rfl rfl hd_f9_isAtWord ⟨(by show 6 + 1 ≤ 24 + 3 * nn + 1; omega), (by show 8 + (2 + 11) + (128) ≤ 800 + nn * 67 + 22; omega)⟩ (ci := 9) (q0 := 0) rfl rfl rfl hl.1 rfl (Nat.le_of_ble_eq_true rfl) dX6_readTest_27 (fun H locs hP hD hS => ?_)
        refine lv_istore (lv' := [(4, .int r_23), (0, .ref (ad_this 0)), (1, .int a1), (2, .int v2_20), (3, .int v3_21)]) hx hb dX6_readTest_30 hl (by decide) rfl (fun ls hl => ?_)
        refine lv_iload hx hb dX6_readTest_32 (lv_at hl 0 rfl) ?_
        refine lv_if_ne (tgt := 52) hx hb dX6_readTest_34 rfl (fun c25 => ?_) (fun c25 => ?_)
        · replace h := ite_f c25 h
          exact J52 z_this_code_12 z_this_size_13 z_this_values_14 z_this_tape_kind_15 z_this_tape_sign_16 z_this_tape_fault_17 z_this_tape_start_18 z_this_tape_stop_19 v2_20 v3_21 r_23 H locs ls h hP hD hS (lv_sub hl [1, 2, 3, 4, 0] rfl)
        · replace h := ite_t c25 h
          refine lv_aload_n hx hb dX6_readTest_37 rfl (lv_at hl 1 rfl) ?_
          refine va_get (ci := 6) (v := .ref (ad_this_tape 0)) (C := RX6) (T := TX6) (N := 7) hx hb hts inlX6 hown hK hP 0 rfl rfl 0 (by decide) (hts _ mw_4_14) (fun _ h9 => h9) rfl dX6_readTest_38 ?_
          refine va_ldcS hx hb hown hE.2.2.2.2.2.2.2.1 dX6_readTest_41 ?_
          obtain ⟨r_37, hc38, h⟩ := bnd1_el h
          refine mfV_iE (As := [.ref (adK 4)]) (rest := []) (wc := cTp ad_this_tape cy_this_tape z_this_tape_bytes z_this_tape_length z_this_tape_kind_15 z_this_tape_sign_16 z_this_tape_fault_17 z_this_tape_start_18 z_this_tape_stop_19) (wr := cRR ad_this cy_this (ad_this_tape 0) z_this_code_12 z_this_sumEnd z_this_testEnd z_this_size_13 z_this_clauses z_this_values_14) (wf := cRR ad_this cy_this (ad_this_tape 0) z_this_code_12 z_this_sumEnd z_this_testEnd z_this_size_13 z_this_clauses z_this_values_14 ++ cTp ad_this_tape cy_this_tape z_this_tape_bytes z_this_tape_length z_this_tape_kind_15 z_this_tape_sign_16 z_this_tape_fault_17 z_this_tape_start_18 z_this_tape_stop_19) S hK hP hD hS hA hE (c9_isAtWord hc38 (by decide)) [3] [4, 5] [0, 1, 2, 3] [0, 1, 2, 3, 4, 5] rfl rfl rfl (by decide) (by decide) (by decide) rfl (by decide) (gdV mw_23_6 mw_23_7 mw_23_8 mw_1_17 mw_23_9) rfl rfl hd_f9_isAtWord ⟨(by show 6 + 1 ≤ 24 + 3 * nn + 1; omega), (by show 8 + (2 + 11) + (128) ≤ 800 + nn * 67 + 22; omega)⟩ (ci := 9) (q0 := 0) rfl rfl rfl hl.1 rfl (Nat.le_of_ble_eq_true rfl) dX6_readTest_43 (fun H locs hP hD hS => ?_)
          refine lv_if_ne (tgt := 52) hx hb dX6_readTest_46 rfl (fun c39 => ?_) (fun c39 => ?_)
          · replace h := ite_f c39 h
            exact J52 z_this_code_12 z_this_size_13 z_this_values_14 z_this_tape_kind_15 z_this_tape_sign_16 z_this_tape_fault_17 z_this_tape_start_18 z_this_tape_stop_19 v2_20 v3_21 r_23 H locs ls h hP hD hS (lv_sub hl [1, 2, 3, 4, 0] rfl)
          · replace h := ite_t c39 h
            refine lv_goto (tgt := 118) hx hb dX6_readTest_49 rfl ?_
            cases h
            exact kx _ _ _ _ _ _ _ _ _ rfl H locs ls hP hD hS (lv_sub hl [1, 3] rfl)
    have L14 : ∀ (n : Nat) (z_this_code_12 : Nat → Int32) (z_this_size_13 : Int32) (z_this_values_14 : Int32) (z_this_tape_kind_15 : Int32) (z_this_tape_sign_16 : Int32) (z_this_tape_fault_17 : Int32) (z_this_tape_start_18 : Int32) (z_this_tape_stop_19 : Int32) (v2_20 : Int32) (v3_21 : Int32) (e14 : (Int32 × (Nat → Int32) × Int32 × Int32 × Int32 × Int32 × Int32 × Int32 × Int32) ⊕ ((Nat → Int32) × Int32 × Int32 × Int32 × Int32 × Int32 × Int32 × Int32 × Int32)) (H : Heap) (locs : List Loc) (ls : Array Slot), iter (fun (z : (Nat → Int32) × Int32 × Int32 × Int32 × Int32 × Int32 × Int32 × Int32 × Int32 × Int32) => f6_readTest_B14 z_this_tape_bytes z_this_tape_length rc_f6_readFact a1 z.1 z.2.1 z.2.2.1 z.2.2.2.1 z.2.2.2.2.1 z.2.2.2.2.2.1 z.2.2.2.2.2.2.1 z.2.2.2.2.2.2.2.1 z.2.2.2.2.2.2.2.2.1 z.2.2.2.2.2.2.2.2.2) n (z_this_code_12, z_this_size_13, z_this_values_14, z_this_tape_kind_15, z_this_tape_sign_16, z_this_tape_fault_17, z_this_tape_start_18, z_this_tape_stop_19, v2_20, v3_21) = some e14 → va_P D vwCl (cRR ad_this cy_this (ad_this_tape 0) z_this_code_12 z_this_sumEnd z_this_testEnd z_this_size_13 z_this_clauses z_this_values_14 ++ cTp ad_this_tape cy_this_tape z_this_tape_bytes z_this_tape_length z_this_tape_kind_15 z_this_tape_sign_16 z_this_tape_fault_17 z_this_tape_start_18 z_this_tape_stop_19) H → va_D A (cRR ad_this cy_this (ad_this_tape 0) z_this_code_12 z_this_sumEnd z_this_testEnd z_this_size_13 z_this_clauses z_this_values_14 ++ cTp ad_this_tape cy_this_tape z_this_tape_bytes z_this_tape_length z_this_tape_kind_15 z_this_tape_sign_16 z_this_tape_fault_17 z_this_tape_start_18 z_this_tape_stop_19) → va_S A s.heap H locs → lv_has ls 5 [(0, .ref (ad_this 0)), (1, .int a1), (2, .int v2_20), (3, .int v3_21)] → (∀ (z_this_code_101 : Nat → Int32) (z_this_size_102 : Int32) (z_this_values_103 : Int32) (z_this_tape_kind_104 : Int32) (z_this_tape_sign_105 : Int32) (z_this_tape_fault_106 : Int32) (z_this_tape_start_107 : Int32) (z_this_tape_stop_108 : Int32) (v2_109 : Int32), e14 = (.inr (z_this_code_101, z_this_size_102, z_this_values_103, z_this_tape_kind_104, z_this_tape_sign_105, z_this_tape_fault_106, z_this_tape_start_107, z_this_tape_stop_108, v2_109)) → ∀ (H : Heap) (locs : List Loc) (ls : Array Slot), va_P D vwCl (cRR ad_this cy_this (ad_this_tape 0) z_this_code_101 z_this_sumEnd z_this_testEnd z_this_size_102 z_this_clauses z_this_values_103 ++ cTp ad_this_tape cy_this_tape z_this_tape_bytes z_this_tape_length z_this_tape_kind_104 z_this_tape_sign_105 z_this_tape_fault_106 z_this_tape_start_107 z_this_tape_stop_108) H → va_D A (cRR ad_this cy_this (ad_this_tape 0) z_this_code_101 z_this_sumEnd z_this_testEnd z_this_size_102 z_this_clauses z_this_values_103 ++ cTp ad_this_tape cy_this_tape z_this_tape_bytes z_this_tape_length z_this_tape_kind_104 z_this_tape_sign_105 z_this_tape_fault_106 z_this_tape_start_107 z_this_tape_stop_108) → va_S A s.heap H locs → lv_has ls 5 [(0, .ref (ad_this 0)), (2, .int v2_109)] → W p l e (rm_f6_readTest nn) s m args below meth c H locs 0 0 Q (F0 m 118 ls [])) → (∀ q, e14 = .inl q → q = (o_ret, o_this_code, o_this_size, o_this_values, o_this_tape_kind, o_this_tape_sign, o_this_tape_fault, o_this_tape_start, o_this_tape_stop)) → W p l e (rm_f6_readTest nn) s m args below meth c H locs 0 0 Q (F0 m 14 ls []) := by
      intro n
      induction n with
      | zero => intro z_this_code_12 z_this_size_13 z_this_values_14 z_this_tape_kind_15 z_this_tape_sign_16 z_this_tape_fault_17 z_this_tape_start_18 z_this_tape_stop_19 v2_20 v3_21 e14 H locs ls h; exact (iter_0 h).elim
      | succ n ih =>
        intro z_this_code_12 z_this_size_13 z_this_values_14 z_this_tape_kind_15 z_this_tape_sign_16 z_this_tape_fault_17 z_this_tape_start_18 z_this_tape_stop_19 v2_20 v3_21 e14 H locs ls h hP hD hS hl kx kr
        obtain ⟨r, hb9, hor⟩ := iter_el h
        refine B14 z_this_code_12 z_this_size_13 z_this_values_14 z_this_tape_kind_15 z_this_tape_sign_16 z_this_tape_fault_17 z_this_tape_start_18 z_this_tape_stop_19 v2_20 v3_21 r H locs ls hb9 hP hD hS hl ?_ ?_ ?_
        · intro z_this_code_12' z_this_size_13' z_this_values_14' z_this_tape_kind_15' z_this_tape_sign_16' z_this_tape_fault_17' z_this_tape_start_18' z_this_tape_stop_19' v2_20' v3_21' er H locs ls hP hD hS hl
          subst er
          rcases hor with ⟨s', e', hi⟩ | e'
          · cases e'; exact ih _ _ _ _ _ _ _ _ _ _ _ H locs ls hi hP hD hS hl kx kr
          · cases e'
        · intro z_this_code_101' z_this_size_102' z_this_values_103' z_this_tape_kind_104' z_this_tape_sign_105' z_this_tape_fault_106' z_this_tape_start_107' z_this_tape_stop_108' v2_109' er H locs ls hP hD hS hl
          subst er
          rcases hor with ⟨s', e', hi⟩ | e'
          · cases e'
          · cases e'; exact kx _ _ _ _ _ _ _ _ _ rfl H locs ls hP hD hS hl
        · intro q er
          subst er
          rcases hor with ⟨s', e', hi⟩ | e'
          · cases e'
          · cases e'; exact kr _ rfl
    rcases bndS9_el h with ⟨q14, hi14, h⟩ | ⟨z_this_code_101, z_this_size_102, z_this_values_103, z_this_tape_kind_104, z_this_tape_sign_105, z_this_tape_fault_106, z_this_tape_start_107, z_this_tape_stop_108, v2_109, hi14, h⟩
    · refine L14 FUEL z_this_code_2 z_this_size_3 z_this_values_4 z_this_tape_kind_5 z_this_tape_sign_6 z_this_tape_fault_7 z_this_tape_start_8 z_this_tape_stop_9 (0 : Int32) (0 : Int32) _ H locs ls hi14 hP hD hS (lv_sub hl [2, 3, 1, 0] rfl) ?_ ?_
      · intro z_this_code_101' z_this_size_102' z_this_values_103' z_this_tape_kind_104' z_this_tape_sign_105' z_this_tape_fault_106' z_this_tape_start_107' z_this_tape_stop_108' v2_109' er; cases er
      · intro q er; cases er; exact Option.some.inj h
    refine L14 FUEL z_this_code_2 z_this_size_3 z_this_values_4 z_this_tape_kind_5 z_this_tape_sign_6 z_this_tape_fault_7 z_this_tape_start_8 z_this_tape_stop_9 (0 : Int32) (0 : Int32) _ H locs ls hi14 hP hD hS (lv_sub hl [2, 3, 1, 0] rfl) ?_ (fun q er => by cases er)
    intro z_this_code_101' z_this_size_102' z_this_values_103' z_this_tape_kind_104' z_this_tape_sign_105' z_this_tape_fault_106' z_this_tape_start_107' z_this_tape_stop_108' v2_109' er H locs ls hP hD hS hl
    cases er
    refine lv_iload_n hx hb dX6_readTest_118 rfl (lv_at hl 1 rfl) ?_
    refine lv_if_eq (tgt := 129) hx hb dX6_readTest_119 rfl (fun c110 => ?_) (fun c110 => ?_)
    · replace h := ite_t c110 h
      refine lv_iconst (v := (1 : Int32)) hx hb dX6_readTest_129 (by decide) ?_
      obtain ⟨e_0, e_1, e_2, e_3, e_4, e_5, e_6, e_7, e_8⟩ := inj9 h
      subst e_0
      subst e_1
      subst e_2
      subst e_3
      subst e_4
      subst e_5
      subst e_6
      subst e_7
      subst e_8
      exact hret _ _ _ _ _ hP hD hS rfl nz1 dX6_readTest_130
    · replace h := ite_f c110 h
      refine lv_aload_n hx hb dX6_readTest_122 rfl (lv_at hl 0 rfl) ?_
      refine lv_iconst (v := (2 : Int32)) hx hb dX6_readTest_123 (by decide) ?_
      refine lv_bipush (v := (124 : Int32)) hx hb dX6_readTest_124 (by decide) ?_
      obtain ⟨z_this_code_111, z_this_size_112, hc113, h⟩ := bnd2_el h
      refine mfV_v (As := [.int (2 : Int32), .int (124 : Int32)]) (rest := []) (wc := cRR ad_this cy_this (ad_this_tape 0) z_this_code_101 z_this_sumEnd z_this_testEnd z_this_size_102 z_this_clauses z_this_values_103) (wr := cTp ad_this_tape cy_this_tape z_this_tape_bytes z_this_tape_length z_this_tape_kind_104 z_this_tape_sign_105 z_this_tape_fault_106 z_this_tape_start_107 z_this_tape_stop_108) (wf := cRR ad_this cy_this (ad_this_tape 0) z_this_code_111 z_this_sumEnd z_this_testEnd z_this_size_112 z_this_clauses z_this_values_103 ++ cTp ad_this_tape cy_this_tape z_this_tape_bytes z_this_tape_length z_this_tape_kind_104 z_this_tape_sign_105 z_this_tape_fault_106 z_this_tape_start_107 z_this_tape_stop_108) S hK hP hD hS hA (c6_emit hc113) [0, 1, 2] [0, 1, 2, 3] [4, 5] [2, 3, 4, 5, 0, 1] rfl rfl rfl (by decide) (by decide) (by decide) rfl (by decide) (gdV mw_24_0 mw_24_1 mw_24_2 mw_2_1 mw_24_3) rfl rfl hd_f6_emit ⟨(by show 0 + 1 ≤ 24 + 3 * nn + 1; omega), (by show 8 + (3 + 11) + (0) ≤ 800 + nn * 67 + 22; omega)⟩ (ci := 6) (q0 := 0) rfl rfl rfl hl.1 rfl (Nat.le_of_ble_eq_true rfl) dX6_readTest_126 (fun H locs hP hD hS => ?_)
      refine lv_iconst (v := (1 : Int32)) hx hb dX6_readTest_129 (by decide) ?_
      obtain ⟨e_0, e_1, e_2, e_3, e_4, e_5, e_6, e_7, e_8⟩ := inj9 h
      subst e_0
      subst e_1
      subst e_2
      subst e_3
      subst e_4
      subst e_5
      subst e_6
      subst e_7
      subst e_8
      exact hret _ _ _ _ _ hP hD hS rfl nz1 dX6_readTest_130
  · replace h := ite_t c11 h
    refine lv_iconst (v := (0 : Int32)) hx hb dX6_readTest_8 (by decide) ?_
    obtain ⟨e_0, e_1, e_2, e_3, e_4, e_5, e_6, e_7, e_8⟩ := inj9 h
    subst e_0
    subst e_1
    subst e_2
    subst e_3
    subst e_4
    subst e_5
    subst e_6
    subst e_7
    subst e_8
    exact hret _ _ _ _ _ hP hD hS rfl nz0 dX6_readTest_9
/-! readNegated -/
def f6_readNegated (rc_f6_readFact : (Nat → Int32) → (Int32) → (Int32) → (Nat → Int32) → (Int32) → (Int32) → (Int32) → (Int32) → (Int32) → (Int32) → (Int32) → Option (Int32 × (Nat → Int32) × Int32 × Int32 × Int32 × Int32 × Int32 × Int32 × Int32)) (z_this_code : Nat → Int32) (z_this_size : Int32) (z_this_values : Int32) (z_this_tape_bytes : Nat → Int32) (z_this_tape_length : Int32) (z_this_tape_kind : Int32) (z_this_tape_sign : Int32) (z_this_tape_fault : Int32) (z_this_tape_start : Int32) (z_this_tape_stop : Int32) (a1 : Int32) : Option (Int32 × (Nat → Int32) × Int32 × Int32 × Int32 × Int32 × Int32 × Int32 × Int32) :=
bnd9 (rc_f6_readFact z_this_code z_this_size z_this_values z_this_tape_bytes z_this_tape_length z_this_tape_kind z_this_tape_sign z_this_tape_fault z_this_tape_start z_this_tape_stop a1) (fun r_1 z_this_code_2 z_this_size_3 z_this_values_4 z_this_tape_kind_5 z_this_tape_sign_6 z_this_tape_fault_7 z_this_tape_start_8 z_this_tape_stop_9 =>
bnd2 (f6_emit z_this_code_2 z_this_size_3 (2 : Int32) (33 : Int32)) (fun z_this_code_11 z_this_size_12 =>
if r_1 = 0 ∨ r_1 = 1 then some (r_1, z_this_code_11, z_this_size_12, z_this_values_4, z_this_tape_kind_5, z_this_tape_sign_6, z_this_tape_fault_7, z_this_tape_start_8, z_this_tape_stop_9) else none))

def rm_f6_readNegated (n : Nat) : Room := { frames := 24 + 3 * n + 1, cells := 0, slots := 0, locals := 800 + n * 67 + 22 }
theorem hd_f6_readNegated : yX6_readNegated.cls = RX6 ∧ yX6_readNegated.cls ≠ "java/lang/invoke/MethodHandle" ∧ yX6_readNegated.cls ≠ "java/lang/invoke/VarHandle" ∧ (parseMethodDescriptor yX6_readNegated.desc).map (fun d => d.parameters.length) = some 1 := by decide +kernel
set_option maxHeartbeats 4000000 in
set_option maxRecDepth 100000 in
theorem c6_readNegated {l : Launch} {D : va_G} {rc_f6_readFact : (Nat → Int32) → (Int32) → (Int32) → (Nat → Int32) → (Int32) → (Int32) → (Int32) → (Int32) → (Int32) → (Int32) → (Int32) → Option (Int32 × (Nat → Int32) × Int32 × Int32 × Int32 × Int32 × Int32 × Int32 × Int32)} (nn : Nat) (hrec : ∀ {adK : Nat → Nat} {adV : Nat → Nat} {ad_this : Nat → Nat} {cy_this : Nat → ClassId} {z_this_code : Nat → Int32} {z_this_sumEnd : Nat → Int32} {z_this_testEnd : Nat → Int32} {z_this_size : Int32} {z_this_clauses : Int32} {z_this_values : Int32} {ad_this_tape : Nat → Nat} {cy_this_tape : Nat → ClassId} {z_this_tape_bytes : Nat → Int32} {z_this_tape_length : Int32} {z_this_tape_kind : Int32} {z_this_tape_sign : Int32} {z_this_tape_fault : Int32} {z_this_tape_start : Int32} {z_this_tape_stop : Int32} {a1 : Int32} {o_ret : Int32} {o_this_code : Nat → Int32} {o_this_size : Int32} {o_this_values : Int32} {o_this_tape_kind : Int32} {o_this_tape_sign : Int32} {o_this_tape_fault : Int32} {o_this_tape_start : Int32} {o_this_tape_stop : Int32}, rc_f6_readFact z_this_code z_this_size z_this_values z_this_tape_bytes z_this_tape_length z_this_tape_kind z_this_tape_sign z_this_tape_fault z_this_tape_start z_this_tape_stop a1 = some (o_ret, o_this_code, o_this_size, o_this_values, o_this_tape_kind, o_this_tape_sign, o_this_tape_fault, o_this_tape_start, o_this_tape_stop) → MetIE l yX6_readFact cX6_readFact 3 (some .boolean) (rm_f6_readFact nn) D ([(cy_this 1, .int), (cy_this 2, .int), (cy_this 3, .int), (cy_this_tape 1, .int)]) (cRR ad_this cy_this (ad_this_tape 0) z_this_code z_this_sumEnd z_this_testEnd z_this_size z_this_clauses z_this_values ++ cTp ad_this_tape cy_this_tape z_this_tape_bytes z_this_tape_length z_this_tape_kind z_this_tape_sign z_this_tape_fault z_this_tape_start z_this_tape_stop) (cRR ad_this cy_this (ad_this_tape 0) o_this_code z_this_sumEnd z_this_testEnd o_this_size z_this_clauses o_this_values ++ cTp ad_this_tape cy_this_tape z_this_tape_bytes z_this_tape_length o_this_tape_kind o_this_tape_sign o_this_tape_fault o_this_tape_start o_this_tape_stop) [.ref (ad_this 0), .int a1] adK adV o_ret) {adK : Nat → Nat} {adV : Nat → Nat} {ad_this : Nat → Nat} {cy_this : Nat → ClassId} {z_this_code : Nat → Int32} {z_this_sumEnd : Nat → Int32} {z_this_testEnd : Nat → Int32} {z_this_size : Int32} {z_this_clauses : Int32} {z_this_values : Int32} {ad_this_tape : Nat → Nat} {cy_this_tape : Nat → ClassId} {z_this_tape_bytes : Nat → Int32} {z_this_tape_length : Int32} {z_this_tape_kind : Int32} {z_this_tape_sign : Int32} {z_this_tape_fault : Int32} {z_this_tape_start : Int32} {z_this_tape_stop : Int32} {a1 : Int32} {o_ret : Int32} {o_this_code : Nat → Int32} {o_this_size : Int32} {o_this_values : Int32} {o_this_tape_kind : Int32} {o_this_tape_sign : Int32} {o_this_tape_fault : Int32} {o_this_tape_start : Int32} {o_this_tape_stop : Int32} (h : f6_readNegated rc_f6_readFact z_this_code z_this_size z_this_values z_this_tape_bytes z_this_tape_length z_this_tape_kind z_this_tape_sign z_this_tape_fault z_this_tape_start z_this_tape_stop a1 = some (o_ret, o_this_code, o_this_size, o_this_values, o_this_tape_kind, o_this_tape_sign, o_this_tape_fault, o_this_tape_start, o_this_tape_stop)) : MetIE l yX6_readNegated cX6_readNegated 3 (some .boolean) (rm_f6_readNegated nn) D ([(cy_this 1, .int), (cy_this 2, .int), (cy_this 3, .int), (cy_this_tape 1, .int)]) (cRR ad_this cy_this (ad_this_tape 0) z_this_code z_this_sumEnd z_this_testEnd z_this_size z_this_clauses z_this_values ++ cTp ad_this_tape cy_this_tape z_this_tape_bytes z_this_tape_length z_this_tape_kind z_this_tape_sign z_this_tape_fault z_this_tape_start z_this_tape_stop) (cRR ad_this cy_this (ad_this_tape 0) o_this_code z_this_sumEnd z_this_testEnd o_this_size z_this_clauses o_this_values ++ cTp ad_this_tape cy_this_tape z_this_tape_bytes z_this_tape_length o_this_tape_kind o_this_tape_sign o_this_tape_fault o_this_tape_start o_this_tape_stop) [.ref (ad_this 0), .int a1] adK adV o_ret := by
  refine metIE_of (own := RX6) rfl (by decide) (Nat.le_of_ble_eq_true rfl) ?_
  intro p e s m args below meth c A Q ls S hK hA hP hD hS hl hE hret
  obtain ⟨hx, hb, hml, hown, hts⟩ := id S
  replace hl : lv_has ls 3 [(0, .ref (ad_this 0)), (1, .int a1)] := hl
  generalize hH : s.heap = H at hP ⊢
  replace hS : va_S A s.heap H [] := by rw [← hH]; exact hS
  generalize hlo : ([] : List Loc) = locs at hS ⊢
  unfold f6_readNegated at h
  refine lv_aload_n hx hb dX6_readNegated_0 rfl (lv_at hl 0 rfl) ?_
  refine lv_iload_n hx hb dX6_readNegated_1 rfl (lv_at hl 1 rfl) ?_
  obtain ⟨r_1, z_this_code_2, z_this_size_3, z_this_values_4, z_this_tape_kind_5, z_this_tape_sign_6, z_this_tape_fault_7, z_this_tape_start_8, z_this_tape_stop_9, hc10, h⟩ := bnd9_el h
  refine mfV_iE (As := [.int a1]) (rest := []) (wc := cRR ad_this cy_this (ad_this_tape 0) z_this_code z_this_sumEnd z_this_testEnd z_this_size z_this_clauses z_this_values ++ cTp ad_this_tape cy_this_tape z_this_tape_bytes z_this_tape_length z_this_tape_kind z_this_tape_sign z_this_tape_fault z_this_tape_start z_this_tape_stop) (wr := []) (wf := cRR ad_this cy_this (ad_this_tape 0) z_this_code_2 z_this_sumEnd z_this_testEnd z_this_size_3 z_this_clauses z_this_values_4 ++ cTp ad_this_tape cy_this_tape z_this_tape_bytes z_this_tape_length z_this_tape_kind_5 z_this_tape_sign_6 z_this_tape_fault_7 z_this_tape_start_8 z_this_tape_stop_9) S hK hP hD hS hA hE (hrec hc10) [0, 1, 2, 3] [0, 1, 2, 3, 4, 5] [] [0, 1, 2, 3, 4, 5] rfl rfl rfl (by decide) (by decide) (by decide) rfl (by decide) (gdV mw_24_13 mw_24_14 mw_24_15 mw_2_1 mw_24_17) rfl rfl hd_f6_readFact ⟨(by show 24 + 3 * nn + 1 ≤ 24 + 3 * nn + 1; omega), (by show 8 + (3 + 11) + (800 + nn * 67) ≤ 800 + nn * 67 + 22; omega)⟩ (ci := 6) (q0 := 0) rfl rfl rfl hl.1 rfl (Nat.le_of_ble_eq_true rfl) dX6_readNegated_2 (fun H locs hP hD hS => ?_)
  refine lv_istore_n (lv' := [(2, .int r_1), (0, .ref (ad_this 0)), (1, .int a1)]) hx hb dX6_readNegated_5 rfl hl (by decide) rfl (fun ls hl => ?_)
  refine lv_aload_n hx hb dX6_readNegated_6 rfl (lv_at hl 1 rfl) ?_
  refine lv_iconst (v := (2 : Int32)) hx hb dX6_readNegated_7 (by decide) ?_
  refine lv_bipush (v := (33 : Int32)) hx hb dX6_readNegated_8 (by decide) ?_
  obtain ⟨z_this_code_11, z_this_size_12, hc13, h⟩ := bnd2_el h
  refine mfV_v (As := [.int (2 : Int32), .int (33 : Int32)]) (rest := []) (wc := cRR ad_this cy_this (ad_this_tape 0) z_this_code_2 z_this_sumEnd z_this_testEnd z_this_size_3 z_this_clauses z_this_values_4) (wr := cTp ad_this_tape cy_this_tape z_this_tape_bytes z_this_tape_length z_this_tape_kind_5 z_this_tape_sign_6 z_this_tape_fault_7 z_this_tape_start_8 z_this_tape_stop_9) (wf := cRR ad_this cy_this (ad_this_tape 0) z_this_code_11 z_this_sumEnd z_this_testEnd z_this_size_12 z_this_clauses z_this_values_4 ++ cTp ad_this_tape cy_this_tape z_this_tape_bytes z_this_tape_length z_this_tape_kind_5 z_this_tape_sign_6 z_this_tape_fault_7 z_this_tape_start_8 z_this_tape_stop_9) S hK hP hD hS hA (c6_emit hc13) [0, 1, 2] [0, 1, 2, 3] [4, 5] [2, 3, 4, 5, 0, 1] rfl rfl rfl (by decide) (by decide) (by decide) rfl (by decide) (gdV mw_24_0 mw_24_1 mw_24_2 mw_2_1 mw_24_3) rfl rfl hd_f6_emit ⟨(by show 0 + 1 ≤ 24 + 3 * nn + 1; omega), (by show 8 + (3 + 11) + (0) ≤ 800 + nn * 67 + 22; omega)⟩ (ci := 6) (q0 := 0) rfl rfl rfl hl.1 rfl (Nat.le_of_ble_eq_true rfl) dX6_readNegated_10 (fun H locs hP hD hS => ?_)
  refine lv_iload_n hx hb dX6_readNegated_13 rfl (lv_at hl 0 rfl) ?_
  obtain ⟨hz, h⟩ := gd_el h
  obtain ⟨e_0, e_1, e_2, e_3, e_4, e_5, e_6, e_7, e_8⟩ := inj9 h
  subst e_0
  subst e_1
  subst e_2
  subst e_3
  subst e_4
  subst e_5
  subst e_6
  subst e_7
  subst e_8
  exact hret _ _ _ _ _ hP hD hS rfl (nzg hz) dX6_readNegated_14
/-! readBracketed -/
def f6_readBracketed (rc_f6_readFact : (Nat → Int32) → (Int32) → (Int32) → (Nat → Int32) → (Int32) → (Int32) → (Int32) → (Int32) → (Int32) → (Int32) → (Int32) → Option (Int32 × (Nat → Int32) × Int32 × Int32 × Int32 × Int32 × Int32 × Int32 × Int32)) (z_this_code : Nat → Int32) (z_this_size : Int32) (z_this_values : Int32) (z_this_tape_bytes : Nat → Int32) (z_this_tape_length : Int32) (z_this_tape_kind : Int32) (z_this_tape_sign : Int32) (z_this_tape_fault : Int32) (z_this_tape_start : Int32) (z_this_tape_stop : Int32) (a1 : Int32) : Option (Int32 × (Nat → Int32) × Int32 × Int32 × Int32 × Int32 × Int32 × Int32 × Int32) :=
bnd9 (f6_readTest rc_f6_readFact z_this_code z_this_size z_this_values z_this_tape_bytes z_this_tape_length z_this_tape_kind z_this_tape_sign z_this_tape_fault z_this_tape_start z_this_tape_stop a1) (fun r_1 z_this_code_2 z_this_size_3 z_this_values_4 z_this_tape_kind_5 z_this_tape_sign_6 z_this_tape_fault_7 z_this_tape_start_8 z_this_tape_stop_9 =>
if r_1 = 0 then (some ((0 : Int32), z_this_code_2, z_this_size_3, z_this_values_4, z_this_tape_kind_5, z_this_tape_sign_6, z_this_tape_fault_7, z_this_tape_start_8, z_this_tape_stop_9)) else (bnd1 (f9_isAt z_this_tape_kind_5 z_this_tape_sign_6 (93 : Int32)) (fun r_12 =>
if r_12 = 0 then (bnd2 (f9_refuse z_this_tape_fault_7 z_this_tape_start_8 (0 : Int32)) (fun r_20 z_this_tape_fault_21 =>
if r_20 = 0 ∨ r_20 = 1 then some (r_20, z_this_code_2, z_this_size_3, z_this_values_4, z_this_tape_kind_5, z_this_tape_sign_6, z_this_tape_fault_21, z_this_tape_start_8, z_this_tape_stop_9) else none)) else (bnd4 (f9_advance z_this_tape_bytes z_this_tape_length z_this_tape_kind_5 z_this_tape_sign_6 z_this_tape_start_8 z_this_tape_stop_9) (fun z_this_tape_kind_15 z_this_tape_sign_16 z_this_tape_start_17 z_this_tape_stop_18 =>
some ((1 : Int32), z_this_code_2, z_this_size_3, z_this_values_4, z_this_tape_kind_15, z_this_tape_sign_16, z_this_tape_fault_7, z_this_tape_start_17, z_this_tape_stop_18))))))

def rm_f6_readBracketed (n : Nat) : Room := { frames := 24 + 3 * n + 2, cells := 0, slots := 0, locals := 800 + n * 67 + 46 }
theorem hd_f6_readBracketed : yX6_readBracketed.cls = RX6 ∧ yX6_readBracketed.cls ≠ "java/lang/invoke/MethodHandle" ∧ yX6_readBracketed.cls ≠ "java/lang/invoke/VarHandle" ∧ (parseMethodDescriptor yX6_readBracketed.desc).map (fun d => d.parameters.length) = some 1 := by decide +kernel
set_option maxHeartbeats 4000000 in
set_option maxRecDepth 100000 in
theorem c6_readBracketed {l : Launch} {D : va_G} {rc_f6_readFact : (Nat → Int32) → (Int32) → (Int32) → (Nat → Int32) → (Int32) → (Int32) → (Int32) → (Int32) → (Int32) → (Int32) → (Int32) → Option (Int32 × (Nat → Int32) × Int32 × Int32 × Int32 × Int32 × Int32 × Int32 × Int32)} (nn : Nat) (hrec : ∀ {adK : Nat → Nat} {adV : Nat → Nat} {ad_this : Nat → Nat} {cy_this : Nat → ClassId} {z_this_code : Nat → Int32} {z_this_sumEnd : Nat → Int32} {z_this_testEnd : Nat → Int32} {z_this_size : Int32} {z_this_clauses : Int32} {z_this_values : Int32} {ad_this_tape : Nat → Nat} {cy_this_tape : Nat → ClassId} {z_this_tape_bytes : Nat → Int32} {z_this_tape_length : Int32} {z_this_tape_kind : Int32} {z_this_tape_sign : Int32} {z_this_tape_fault : Int32} {z_this_tape_start : Int32} {z_this_tape_stop : Int32} {a1 : Int32} {o_ret : Int32} {o_this_code : Nat → Int32} {o_this_size : Int32} {o_this_values : Int32} {o_this_tape_kind : Int32} {o_this_tape_sign : Int32} {o_this_tape_fault : Int32} {o_this_tape_start : Int32} {o_this_tape_stop : Int32}, rc_f6_readFact z_this_code z_this_size z_this_values z_this_tape_bytes z_this_tape_length z_this_tape_kind z_this_tape_sign z_this_tape_fault z_this_tape_start z_this_tape_stop a1 = some (o_ret, o_this_code, o_this_size, o_this_values, o_this_tape_kind, o_this_tape_sign, o_this_tape_fault, o_this_tape_start, o_this_tape_stop) → MetIE l yX6_readFact cX6_readFact 3 (some .boolean) (rm_f6_readFact nn) D ([(cy_this 1, .int), (cy_this 2, .int), (cy_this 3, .int), (cy_this_tape 1, .int)]) (cRR ad_this cy_this (ad_this_tape 0) z_this_code z_this_sumEnd z_this_testEnd z_this_size z_this_clauses z_this_values ++ cTp ad_this_tape cy_this_tape z_this_tape_bytes z_this_tape_length z_this_tape_kind z_this_tape_sign z_this_tape_fault z_this_tape_start z_this_tape_stop) (cRR ad_this cy_this (ad_this_tape 0) o_this_code z_this_sumEnd z_this_testEnd o_this_size z_this_clauses o_this_values ++ cTp ad_this_tape cy_this_tape z_this_tape_bytes z_this_tape_length o_this_tape_kind o_this_tape_sign o_this_tape_fault o_this_tape_start o_this_tape_stop) [.ref (ad_this 0), .int a1] adK adV o_ret) {adK : Nat → Nat} {adV : Nat → Nat} {ad_this : Nat → Nat} {cy_this : Nat → ClassId} {z_this_code : Nat → Int32} {z_this_sumEnd : Nat → Int32} {z_this_testEnd : Nat → Int32} {z_this_size : Int32} {z_this_clauses : Int32} {z_this_values : Int32} {ad_this_tape : Nat → Nat} {cy_this_tape : Nat → ClassId} {z_this_tape_bytes : Nat → Int32} {z_this_tape_length : Int32} {z_this_tape_kind : Int32} {z_this_tape_sign : Int32} {z_this_tape_fault : Int32} {z_this_tape_start : Int32} {z_this_tape_stop : Int32} {a1 : Int32} {o_ret : Int32} {o_this_code : Nat → Int32} {o_this_size : Int32} {o_this_values : Int32} {o_this_tape_kind : Int32} {o_this_tape_sign : Int32} {o_this_tape_fault : Int32} {o_this_tape_start : Int32} {o_this_tape_stop : Int32} (h : f6_readBracketed rc_f6_readFact z_this_code z_this_size z_this_values z_this_tape_bytes z_this_tape_length z_this_tape_kind z_this_tape_sign z_this_tape_fault z_this_tape_start z_this_tape_stop a1 = some (o_ret, o_this_code, o_this_size, o_this_values, o_this_tape_kind, o_this_tape_sign, o_this_tape_fault, o_this_tape_start, o_this_tape_stop)) : MetIE l yX6_readBracketed cX6_readBracketed 2 (some .boolean) (rm_f6_readBracketed nn) D ([(cy_this 1, .int), (cy_this 2, .int), (cy_this 3, .int), (cy_this_tape 1, .int)]) (cRR ad_this cy_this (ad_this_tape 0) z_this_code z_this_sumEnd z_this_testEnd z_this_size z_this_clauses z_this_values ++ cTp ad_this_tape cy_this_tape z_this_tape_bytes z_this_tape_length z_this_tape_kind z_this_tape_sign z_this_tape_fault z_this_tape_start z_this_tape_stop) (cRR ad_this cy_this (ad_this_tape 0) o_this_code z_this_sumEnd z_this_testEnd o_this_size z_this_clauses o_this_values ++ cTp ad_this_tape cy_this_tape z_this_tape_bytes z_this_tape_length o_this_tape_kind o_this_tape_sign o_this_tape_fault o_this_tape_start o_this_tape_stop) [.ref (ad_this 0), .int a1] adK adV o_ret := by
  refine metIE_of (own := RX6) rfl (by decide) (Nat.le_of_ble_eq_true rfl) ?_
  intro p e s m args below meth c A Q ls S hK hA hP hD hS hl hE hret
  obtain ⟨hx, hb, hml, hown, hts⟩ := id S
  replace hl : lv_has ls 2 [(0, .ref (ad_this 0)), (1, .int a1)] := hl
  generalize hH : s.heap = H at hP ⊢
  replace hS : va_S A s.heap H [] := by rw [← hH]; exact hS
  generalize hlo : ([] : List Loc) = locs at hS ⊢
  unfold f6_readBracketed at h
  refine lv_aload_n hx hb dX6_readBracketed_0 rfl (lv_at hl 0 rfl) ?_
  refine lv_iload_n hx hb dX6_readBracketed_1 rfl (lv_at hl 1 rfl) ?_
  obtain ⟨r_1, z_this_code_2, z_this_size_3, z_this_values_4, z_this_tape_kind_5, z_this_tape_sign_6, z_this_tape_fault_7, z_this_tape_start_8, z_this_tape_stop_9, hc10, h⟩ := bnd9_el h
  refine mfV_iE (As := [.int a1]) (rest := []) (wc := cRR ad_this cy_this (ad_this_tape 0) z_this_code z_this_sumEnd z_this_testEnd z_this_size z_this_clauses z_this_values ++ cTp ad_this_tape cy_this_tape z_this_tape_bytes z_this_tape_length z_this_tape_kind z_this_tape_sign z_this_tape_fault z_this_tape_start z_this_tape_stop) (wr := []) (wf := cRR ad_this cy_this (ad_this_tape 0) z_this_code_2 z_this_sumEnd z_this_testEnd z_this_size_3 z_this_clauses z_this_values_4 ++ cTp ad_this_tape cy_this_tape z_this_tape_bytes z_this_tape_length z_this_tape_kind_5 z_this_tape_sign_6 z_this_tape_fault_7 z_this_tape_start_8 z_this_tape_stop_9) S hK hP hD hS hA hE (c6_readTest nn hrec hc10) [0, 1, 2, 3] [0, 1, 2, 3, 4, 5] [] [0, 1, 2, 3, 4, 5] rfl rfl rfl (by decide) (by decide) (by decide) rfl (by decide) (gdV mw_24_9 mw_24_10 mw_24_11 mw_2_1 mw_24_12) rfl rfl hd_f6_readTest ⟨(by show 24 + 3 * nn + 1 + 1 ≤ 24 + 3 * nn + 2; omega), (by show 8 + (5 + 11) + (800 + nn * 67 + 22) ≤ 800 + nn * 67 + 46; omega)⟩ (ci := 6) (q0 := 0) rfl rfl rfl hl.1 rfl (Nat.le_of_ble_eq_true rfl) dX6_readBracketed_2 (fun H locs hP hD hS => ?_)
  refine lv_if_ne (tgt := 10) hx hb dX6_readBracketed_5 rfl (fun c11 => ?_) (fun c11 => ?_)
  · replace h := ite_f c11 h
    refine lv_aload_n hx hb dX6_readBracketed_10 rfl (lv_at hl 0 rfl) ?_
    refine va_get (ci := 6) (v := .ref (ad_this_tape 0)) (C := RX6) (T := TX6) (N := 7) hx hb hts inlX6 hown hK hP 0 rfl rfl 0 (by decide) (hts _ mw_4_14) (fun _ h9 => h9) rfl dX6_readBracketed_11 ?_
    refine lv_bipush (v := (93 : Int32)) hx hb dX6_readBracketed_14 (by decide) ?_
    obtain ⟨r_12, hc13, h⟩ := bnd1_el h
    refine mfV_i (As := [.int (93 : Int32)]) (rest := []) (wc := cTp ad_this_tape cy_this_tape z_this_tape_bytes z_this_tape_length z_this_tape_kind_5 z_this_tape_sign_6 z_this_tape_fault_7 z_this_tape_start_8 z_this_tape_stop_9) (wr := cRR ad_this cy_this (ad_this_tape 0) z_this_code_2 z_this_sumEnd z_this_testEnd z_this_size_3 z_this_clauses z_this_values_4) (wf := cRR ad_this cy_this (ad_this_tape 0) z_this_code_2 z_this_sumEnd z_this_testEnd z_this_size_3 z_this_clauses z_this_values_4 ++ cTp ad_this_tape cy_this_tape z_this_tape_bytes z_this_tape_length z_this_tape_kind_5 z_this_tape_sign_6 z_this_tape_fault_7 z_this_tape_start_8 z_this_tape_stop_9) S hK hP hD hS hA (c9_isAt hc13) [3] [4, 5] [0, 1, 2, 3] [0, 1, 2, 3, 4, 5] rfl rfl rfl (by decide) (by decide) (by decide) rfl (by decide) (gdV mw_24_4 mw_14_22 mw_14_23 mw_1_17 mw_15_0) rfl rfl hd_f9_isAt ⟨(by show 0 + 1 ≤ 24 + 3 * nn + 2; omega), (by show 8 + (2 + 11) + (0) ≤ 800 + nn * 67 + 46; omega)⟩ (ci := 9) (q0 := 0) rfl rfl rfl hl.1 rfl (Nat.le_of_ble_eq_true rfl) dX6_readBracketed_16 (fun H locs hP hD hS => ?_)
    refine lv_if_ne (tgt := 31) hx hb dX6_readBracketed_19 rfl (fun c14 => ?_) (fun c14 => ?_)
    · replace h := ite_f c14 h
      refine lv_aload_n hx hb dX6_readBracketed_31 rfl (lv_at hl 0 rfl) ?_
      refine va_get (ci := 6) (v := .ref (ad_this_tape 0)) (C := RX6) (T := TX6) (N := 7) hx hb hts inlX6 hown hK hP 0 rfl rfl 0 (by decide) (hts _ mw_4_14) (fun _ h9 => h9) rfl dX6_readBracketed_32 ?_
      obtain ⟨z_this_tape_kind_15, z_this_tape_sign_16, z_this_tape_start_17, z_this_tape_stop_18, hc19, h⟩ := bnd4_el h
      refine mfV_v (As := []) (rest := []) (wc := cTp ad_this_tape cy_this_tape z_this_tape_bytes z_this_tape_length z_this_tape_kind_5 z_this_tape_sign_6 z_this_tape_fault_7 z_this_tape_start_8 z_this_tape_stop_9) (wr := cRR ad_this cy_this (ad_this_tape 0) z_this_code_2 z_this_sumEnd z_this_testEnd z_this_size_3 z_this_clauses z_this_values_4) (wf := cRR ad_this cy_this (ad_this_tape 0) z_this_code_2 z_this_sumEnd z_this_testEnd z_this_size_3 z_this_clauses z_this_values_4 ++ cTp ad_this_tape cy_this_tape z_this_tape_bytes z_this_tape_length z_this_tape_kind_15 z_this_tape_sign_16 z_this_tape_fault_7 z_this_tape_start_17 z_this_tape_stop_18) S hK hP hD hS hA (c9_advance hc19) [3] [4, 5] [0, 1, 2, 3] [0, 1, 2, 3, 4, 5] rfl rfl rfl (by decide) (by decide) (by decide) rfl (by decide) (gdV mw_23_12 mw_10_1 mw_10_2 mw_1_17 mw_10_3) rfl rfl hd_f9_advance ⟨(by show 0 + 1 ≤ 24 + 3 * nn + 2; omega), (by show 8 + (4 + 11) + (0) ≤ 800 + nn * 67 + 46; omega)⟩ (ci := 9) (q0 := 0) rfl rfl rfl hl.1 rfl (Nat.le_of_ble_eq_true rfl) dX6_readBracketed_35 (fun H locs hP hD hS => ?_)
      refine lv_iconst (v := (1 : Int32)) hx hb dX6_readBracketed_38 (by decide) ?_
      obtain ⟨e_0, e_1, e_2, e_3, e_4, e_5, e_6, e_7, e_8⟩ := inj9 h
      subst e_0
      subst e_1
      subst e_2
      subst e_3
      subst e_4
      subst e_5
      subst e_6
      subst e_7
      subst e_8
      exact hret _ _ _ _ _ hP hD hS rfl nz1 dX6_readBracketed_39
    · replace h := ite_t c14 h
      refine lv_aload_n hx hb dX6_readBracketed_22 rfl (lv_at hl 0 rfl) ?_
      refine va_get (ci := 6) (v := .ref (ad_this_tape 0)) (C := RX6) (T := TX6) (N := 7) hx hb hts inlX6 hown hK hP 0 rfl rfl 0 (by decide) (hts _ mw_4_14) (fun _ h9 => h9) rfl dX6_readBracketed_23 ?_
      refine lv_iconst (v := (0 : Int32)) hx hb dX6_readBracketed_26 (by decide) ?_
      obtain ⟨r_20, z_this_tape_fault_21, hc22, h⟩ := bnd2_el h
      refine mfV_i (As := [.int (0 : Int32)]) (rest := []) (wc := cTp ad_this_tape cy_this_tape z_this_tape_bytes z_this_tape_length z_this_tape_kind_5 z_this_tape_sign_6 z_this_tape_fault_7 z_this_tape_start_8 z_this_tape_stop_9) (wr := cRR ad_this cy_this (ad_this_tape 0) z_this_code_2 z_this_sumEnd z_this_testEnd z_this_size_3 z_this_clauses z_this_values_4) (wf := cRR ad_this cy_this (ad_this_tape 0) z_this_code_2 z_this_sumEnd z_this_testEnd z_this_size_3 z_this_clauses z_this_values_4 ++ cTp ad_this_tape cy_this_tape z_this_tape_bytes z_this_tape_length z_this_tape_kind_5 z_this_tape_sign_6 z_this_tape_fault_21 z_this_tape_start_8 z_this_tape_stop_9) S hK hP hD hS hA (c9_refuse hc22) [3] [4, 5] [0, 1, 2, 3] [0, 1, 2, 3, 4, 5] rfl rfl rfl (by decide) (by decide) (by decide) rfl (by decide) (gdV mw_23_11 mw_12_18 mw_12_19 mw_1_17 mw_12_20) rfl rfl hd_f9_refuse ⟨(by show 0 + 1 ≤ 24 + 3 * nn + 2; omega), (by show 8 + (2 + 11) + (0) ≤ 800 + nn * 67 + 46; omega)⟩ (ci := 9) (q0 := 0) rfl rfl rfl hl.1 rfl (Nat.le_of_ble_eq_true rfl) dX6_readBracketed_27 (fun H locs hP hD hS => ?_)
      obtain ⟨hz, h⟩ := gd_el h
      obtain ⟨e_0, e_1, e_2, e_3, e_4, e_5, e_6, e_7, e_8⟩ := inj9 h
      subst e_0
      subst e_1
      subst e_2
      subst e_3
      subst e_4
      subst e_5
      subst e_6
      subst e_7
      subst e_8
      exact hret _ _ _ _ _ hP hD hS rfl (nzg hz) dX6_readBracketed_30
  · replace h := ite_t c11 h
    refine lv_iconst (v := (0 : Int32)) hx hb dX6_readBracketed_8 (by decide) ?_
    obtain ⟨e_0, e_1, e_2, e_3, e_4, e_5, e_6, e_7, e_8⟩ := inj9 h
    subst e_0
    subst e_1
    subst e_2
    subst e_3
    subst e_4
    subst e_5
    subst e_6
    subst e_7
    subst e_8
    exact hret _ _ _ _ _ hP hD hS rfl nz0 dX6_readBracketed_9
/-! readFact -/
def f6_readFact_J31 (a1 : Int32) (z_this_tape_bytes : Nat → Int32) (z_this_tape_length : Int32) (rc_f6_readFact : (Nat → Int32) → (Int32) → (Int32) → (Nat → Int32) → (Int32) → (Int32) → (Int32) → (Int32) → (Int32) → (Int32) → (Int32) → Option (Int32 × (Nat → Int32) × Int32 × Int32 × Int32 × Int32 × Int32 × Int32 × Int32)) (z_this_code_4 : Nat → Int32) (z_this_size_5 : Int32) (z_this_values_6 : Int32) (z_this_tape_kind_7 : Int32) (z_this_tape_sign_8 : Int32) (z_this_tape_fault_9 : Int32) (z_this_tape_start_10 : Int32) (z_this_tape_stop_11 : Int32) (v2_12 : Int32) : Option (Int32 × (Nat → Int32) × Int32 × Int32 × Int32 × Int32 × Int32 × Int32 × Int32) :=
if a1 < (10 : Int32) then (bnd4 (f9_advance z_this_tape_bytes z_this_tape_length z_this_tape_kind_7 z_this_tape_sign_8 z_this_tape_start_10 z_this_tape_stop_11) (fun z_this_tape_kind_27 z_this_tape_sign_28 z_this_tape_start_29 z_this_tape_stop_30 =>
if v2_12 = 0 then (bnd9 (f6_readBracketed rc_f6_readFact z_this_code_4 z_this_size_5 z_this_values_6 z_this_tape_bytes z_this_tape_length z_this_tape_kind_27 z_this_tape_sign_28 z_this_tape_fault_9 z_this_tape_start_29 z_this_tape_stop_30 (a1 + (1 : Int32))) (fun r_33 z_this_code_34 z_this_size_35 z_this_values_36 z_this_tape_kind_37 z_this_tape_sign_38 z_this_tape_fault_39 z_this_tape_start_40 z_this_tape_stop_41 =>
if r_33 = 0 ∨ r_33 = 1 then some (r_33, z_this_code_34, z_this_size_35, z_this_values_36, z_this_tape_kind_37, z_this_tape_sign_38, z_this_tape_fault_39, z_this_tape_start_40, z_this_tape_stop_41) else none)) else (bnd9 (f6_readNegated rc_f6_readFact z_this_code_4 z_this_size_5 z_this_values_6 z_this_tape_bytes z_this_tape_length z_this_tape_kind_27 z_this_tape_sign_28 z_this_tape_fault_9 z_this_tape_start_29 z_this_tape_stop_30 (a1 + (1 : Int32))) (fun r_43 z_this_code_44 z_this_size_45 z_this_values_46 z_this_tape_kind_47 z_this_tape_sign_48 z_this_tape_fault_49 z_this_tape_start_50 z_this_tape_stop_51 =>
if r_43 = 0 ∨ r_43 = 1 then some (r_43, z_this_code_44, z_this_size_45, z_this_values_46, z_this_tape_kind_47, z_this_tape_sign_48, z_this_tape_fault_49, z_this_tape_start_50, z_this_tape_stop_51) else none)))) else (bnd2 (f9_refuse z_this_tape_fault_9 z_this_tape_start_10 (2 : Int32)) (fun r_53 z_this_tape_fault_54 =>
if r_53 = 0 ∨ r_53 = 1 then some (r_53, z_this_code_4, z_this_size_5, z_this_values_6, z_this_tape_kind_7, z_this_tape_sign_8, z_this_tape_fault_54, z_this_tape_start_10, z_this_tape_stop_11) else none))

def f6_readFact_body (rc_f6_readFact : (Nat → Int32) → (Int32) → (Int32) → (Nat → Int32) → (Int32) → (Int32) → (Int32) → (Int32) → (Int32) → (Int32) → (Int32) → Option (Int32 × (Nat → Int32) × Int32 × Int32 × Int32 × Int32 × Int32 × Int32 × Int32)) (z_this_code : Nat → Int32) (z_this_size : Int32) (z_this_values : Int32) (z_this_tape_bytes : Nat → Int32) (z_this_tape_length : Int32) (z_this_tape_kind : Int32) (z_this_tape_sign : Int32) (z_this_tape_fault : Int32) (z_this_tape_start : Int32) (z_this_tape_stop : Int32) (a1 : Int32) : Option (Int32 × (Nat → Int32) × Int32 × Int32 × Int32 × Int32 × Int32 × Int32 × Int32) :=
bnd1 (f9_isAtWord z_this_tape_bytes z_this_tape_kind z_this_tape_start z_this_tape_stop 5) (fun r_1 =>
if r_1 = 0 then (bnd1 (f9_isAt z_this_tape_kind z_this_tape_sign (91 : Int32)) (fun r_13 =>
if r_13 = 0 then (bnd9 (f6_readComparison z_this_code z_this_size z_this_values z_this_tape_bytes z_this_tape_length z_this_tape_kind z_this_tape_sign z_this_tape_fault z_this_tape_start z_this_tape_stop) (fun r_16 z_this_code_17 z_this_size_18 z_this_values_19 z_this_tape_kind_20 z_this_tape_sign_21 z_this_tape_fault_22 z_this_tape_start_23 z_this_tape_stop_24 =>
if r_16 = 0 ∨ r_16 = 1 then some (r_16, z_this_code_17, z_this_size_18, z_this_values_19, z_this_tape_kind_20, z_this_tape_sign_21, z_this_tape_fault_22, z_this_tape_start_23, z_this_tape_stop_24) else none)) else (f6_readFact_J31 a1 z_this_tape_bytes z_this_tape_length rc_f6_readFact z_this_code z_this_size z_this_values z_this_tape_kind z_this_tape_sign z_this_tape_fault z_this_tape_start z_this_tape_stop r_1))) else (f6_readFact_J31 a1 z_this_tape_bytes z_this_tape_length rc_f6_readFact z_this_code z_this_size z_this_values z_this_tape_kind z_this_tape_sign z_this_tape_fault z_this_tape_start z_this_tape_stop r_1))

def f6_readFact : Nat → (Nat → Int32) → (Int32) → (Int32) → (Nat → Int32) → (Int32) → (Int32) → (Int32) → (Int32) → (Int32) → (Int32) → (Int32) → Option (Int32 × (Nat → Int32) × Int32 × Int32 × Int32 × Int32 × Int32 × Int32 × Int32)
  | 0 => fun _ _ _ _ _ _ _ _ _ _ _ => none
  | n + 1 => f6_readFact_body (f6_readFact n)

set_option maxHeartbeats 4000000 in
set_option maxRecDepth 100000 in
theorem c6_readFact_body {l : Launch} {D : va_G} {rc_f6_readFact : (Nat → Int32) → (Int32) → (Int32) → (Nat → Int32) → (Int32) → (Int32) → (Int32) → (Int32) → (Int32) → (Int32) → (Int32) → Option (Int32 × (Nat → Int32) × Int32 × Int32 × Int32 × Int32 × Int32 × Int32 × Int32)} (nn : Nat) (hrec : ∀ {adK : Nat → Nat} {adV : Nat → Nat} {ad_this : Nat → Nat} {cy_this : Nat → ClassId} {z_this_code : Nat → Int32} {z_this_sumEnd : Nat → Int32} {z_this_testEnd : Nat → Int32} {z_this_size : Int32} {z_this_clauses : Int32} {z_this_values : Int32} {ad_this_tape : Nat → Nat} {cy_this_tape : Nat → ClassId} {z_this_tape_bytes : Nat → Int32} {z_this_tape_length : Int32} {z_this_tape_kind : Int32} {z_this_tape_sign : Int32} {z_this_tape_fault : Int32} {z_this_tape_start : Int32} {z_this_tape_stop : Int32} {a1 : Int32} {o_ret : Int32} {o_this_code : Nat → Int32} {o_this_size : Int32} {o_this_values : Int32} {o_this_tape_kind : Int32} {o_this_tape_sign : Int32} {o_this_tape_fault : Int32} {o_this_tape_start : Int32} {o_this_tape_stop : Int32}, rc_f6_readFact z_this_code z_this_size z_this_values z_this_tape_bytes z_this_tape_length z_this_tape_kind z_this_tape_sign z_this_tape_fault z_this_tape_start z_this_tape_stop a1 = some (o_ret, o_this_code, o_this_size, o_this_values, o_this_tape_kind, o_this_tape_sign, o_this_tape_fault, o_this_tape_start, o_this_tape_stop) → MetIE l yX6_readFact cX6_readFact 3 (some .boolean) (rm_f6_readFact nn) D ([(cy_this 1, .int), (cy_this 2, .int), (cy_this 3, .int), (cy_this_tape 1, .int)]) (cRR ad_this cy_this (ad_this_tape 0) z_this_code z_this_sumEnd z_this_testEnd z_this_size z_this_clauses z_this_values ++ cTp ad_this_tape cy_this_tape z_this_tape_bytes z_this_tape_length z_this_tape_kind z_this_tape_sign z_this_tape_fault z_this_tape_start z_this_tape_stop) (cRR ad_this cy_this (ad_this_tape 0) o_this_code z_this_sumEnd z_this_testEnd o_this_size z_this_clauses o_this_values ++ cTp ad_this_tape cy_this_tape z_this_tape_bytes z_this_tape_length o_this_tape_kind o_this_tape_sign o_this_tape_fault o_this_tape_start o_this_tape_stop) [.ref (ad_this 0), .int a1] adK adV o_ret) {adK : Nat → Nat} {adV : Nat → Nat} {ad_this : Nat → Nat} {cy_this : Nat → ClassId} {z_this_code : Nat → Int32} {z_this_sumEnd : Nat → Int32} {z_this_testEnd : Nat → Int32} {z_this_size : Int32} {z_this_clauses : Int32} {z_this_values : Int32} {ad_this_tape : Nat → Nat} {cy_this_tape : Nat → ClassId} {z_this_tape_bytes : Nat → Int32} {z_this_tape_length : Int32} {z_this_tape_kind : Int32} {z_this_tape_sign : Int32} {z_this_tape_fault : Int32} {z_this_tape_start : Int32} {z_this_tape_stop : Int32} {a1 : Int32} {o_ret : Int32} {o_this_code : Nat → Int32} {o_this_size : Int32} {o_this_values : Int32} {o_this_tape_kind : Int32} {o_this_tape_sign : Int32} {o_this_tape_fault : Int32} {o_this_tape_start : Int32} {o_this_tape_stop : Int32} (h : f6_readFact_body rc_f6_readFact z_this_code z_this_size z_this_values z_this_tape_bytes z_this_tape_length z_this_tape_kind z_this_tape_sign z_this_tape_fault z_this_tape_start z_this_tape_stop a1 = some (o_ret, o_this_code, o_this_size, o_this_values, o_this_tape_kind, o_this_tape_sign, o_this_tape_fault, o_this_tape_start, o_this_tape_stop)) : MetIE l yX6_readFact cX6_readFact 3 (some .boolean) (rm_f6_readFact (nn + 1)) D ([(cy_this 1, .int), (cy_this 2, .int), (cy_this 3, .int), (cy_this_tape 1, .int)]) (cRR ad_this cy_this (ad_this_tape 0) z_this_code z_this_sumEnd z_this_testEnd z_this_size z_this_clauses z_this_values ++ cTp ad_this_tape cy_this_tape z_this_tape_bytes z_this_tape_length z_this_tape_kind z_this_tape_sign z_this_tape_fault z_this_tape_start z_this_tape_stop) (cRR ad_this cy_this (ad_this_tape 0) o_this_code z_this_sumEnd z_this_testEnd o_this_size z_this_clauses o_this_values ++ cTp ad_this_tape cy_this_tape z_this_tape_bytes z_this_tape_length o_this_tape_kind o_this_tape_sign o_this_tape_fault o_this_tape_start o_this_tape_stop) [.ref (ad_this 0), .int a1] adK adV o_ret := by
  refine metIE_of (own := RX6) rfl (by decide) (Nat.le_of_ble_eq_true rfl) ?_
  intro p e s m args below meth c A Q ls S hK hA hP hD hS hl hE hret
  obtain ⟨hx, hb, hml, hown, hts⟩ := id S
  replace hl : lv_has ls 3 [(0, .ref (ad_this 0)), (1, .int a1)] := hl
  generalize hH : s.heap = H at hP ⊢
  replace hS : va_S A s.heap H [] := by rw [← hH]; exact hS
  generalize hlo : ([] : List Loc) = locs at hS ⊢
  unfold f6_readFact_body at h
  have J31 : ∀ (z_this_code_4 : Nat → Int32) (z_this_size_5 : Int32) (z_this_values_6 : Int32) (z_this_tape_kind_7 : Int32) (z_this_tape_sign_8 : Int32) (z_this_tape_fault_9 : Int32) (z_this_tape_start_10 : Int32) (z_this_tape_stop_11 : Int32) (v2_12 : Int32) (H : Heap) (locs : List Loc) (ls : Array Slot), f6_readFact_J31 a1 z_this_tape_bytes z_this_tape_length rc_f6_readFact z_this_code_4 z_this_size_5 z_this_values_6 z_this_tape_kind_7 z_this_tape_sign_8 z_this_tape_fault_9 z_this_tape_start_10 z_this_tape_stop_11 v2_12 = some (o_ret, o_this_code, o_this_size, o_this_values, o_this_tape_kind, o_this_tape_sign, o_this_tape_fault, o_this_tape_start, o_this_tape_stop) → va_P D vwCl (cRR ad_this cy_this (ad_this_tape 0) z_this_code_4 z_this_sumEnd z_this_testEnd z_this_size_5 z_this_clauses z_this_values_6 ++ cTp ad_this_tape cy_this_tape z_this_tape_bytes z_this_tape_length z_this_tape_kind_7 z_this_tape_sign_8 z_this_tape_fault_9 z_this_tape_start_10 z_this_tape_stop_11) H → va_D A (cRR ad_this cy_this (ad_this_tape 0) z_this_code_4 z_this_sumEnd z_this_testEnd z_this_size_5 z_this_clauses z_this_values_6 ++ cTp ad_this_tape cy_this_tape z_this_tape_bytes z_this_tape_length z_this_tape_kind_7 z_this_tape_sign_8 z_this_tape_fault_9 z_this_tape_start_10 z_this_tape_stop_11) → va_S A s.heap H locs → lv_has ls 3 [(0, .ref (ad_this 0)), (1, .int a1), (2, .int v2_12)] → W p l e (rm_f6_readFact (nn + 1)) s m args below meth c H locs 0 0 Q (F0 m 31 ls []) := by
    intro z_this_code_4 z_this_size_5 z_this_values_6 z_this_tape_kind_7 z_this_tape_sign_8 z_this_tape_fault_9 z_this_tape_start_10 z_this_tape_stop_11 v2_12 H locs ls h hP hD hS hl
    unfold f6_readFact_J31 at h
    refine lv_iload_n hx hb dX6_readFact_31 rfl (lv_at hl 1 rfl) ?_
    refine lv_bipush (v := (10 : Int32)) hx hb dX6_readFact_32 (by decide) ?_
    refine lv_icmp_lt (tgt := 46) hx hb dX6_readFact_34 rfl (fun c26 => ?_) (fun c26 => ?_)
    · replace h := ite_t c26 h
      refine lv_aload_n hx hb dX6_readFact_46 rfl (lv_at hl 0 rfl) ?_
      refine va_get (ci := 6) (v := .ref (ad_this_tape 0)) (C := RX6) (T := TX6) (N := 7) hx hb hts inlX6 hown hK hP 0 rfl rfl 0 (by decide) (hts _ mw_4_14) (fun _ h9 => h9) rfl dX6_readFact_47 ?_
      obtain ⟨z_this_tape_kind_27, z_this_tape_sign_28, z_this_tape_start_29, z_this_tape_stop_30, hc31, h⟩ := bnd4_el h
      refine mfV_v (As := []) (rest := []) (wc := cTp ad_this_tape cy_this_tape z_this_tape_bytes z_this_tape_length z_this_tape_kind_7 z_this_tape_sign_8 z_this_tape_fault_9 z_this_tape_start_10 z_this_tape_stop_11) (wr := cRR ad_this cy_this (ad_this_tape 0) z_this_code_4 z_this_sumEnd z_this_testEnd z_this_size_5 z_this_clauses z_this_values_6) (wf := cRR ad_this cy_this (ad_this_tape 0) z_this_code_4 z_this_sumEnd z_this_testEnd z_this_size_5 z_this_clauses z_this_values_6 ++ cTp ad_this_tape cy_this_tape z_this_tape_bytes z_this_tape_length z_this_tape_kind_27 z_this_tape_sign_28 z_this_tape_fault_9 z_this_tape_start_29 z_this_tape_stop_30) S hK hP hD hS hA (c9_advance hc31) [3] [4, 5] [0, 1, 2, 3] [0, 1, 2, 3, 4, 5] rfl rfl rfl (by decide) (by decide) (by decide) rfl (by decide) (gdV mw_23_12 mw_10_1 mw_10_2 mw_1_17 mw_10_3) rfl rfl hd_f9_advance ⟨(by show 0 + 1 ≤ 24 + 3 * (nn + 1); omega), (by show 8 + (4 + 11) + (0) ≤ 800 + (nn + 1) * 67; omega)⟩ (ci := 9) (q0 := 0) rfl rfl rfl hl.1 rfl (Nat.le_of_ble_eq_true rfl) dX6_readFact_50 (fun H locs hP hD hS => ?_)
      refine lv_iload_n hx hb dX6_readFact_53 rfl (lv_at hl 2 rfl) ?_
      refine lv_if_eq (tgt := 67) hx hb dX6_readFact_54 rfl (fun c32 => ?_) (fun c32 => ?_)
      · replace h := ite_t c32 h
        refine lv_aload_n hx hb dX6_readFact_67 rfl (lv_at hl 0 rfl) ?_
        refine lv_iload_n hx hb dX6_readFact_68 rfl (lv_at hl 1 rfl) ?_
        refine lv_iconst (v := (1 : Int32)) hx hb dX6_readFact_69 (by decide) ?_
        refine lv_iadd hx hb dX6_readFact_70 ?_
        obtain ⟨r_33, z_this_code_34, z_this_size_35, z_this_values_36, z_this_tape_kind_37, z_this_tape_sign_38, z_this_tape_fault_39, z_this_tape_start_40, z_this_tape_stop_41, hc42, h⟩ := bnd9_el h
        refine mfV_iE (As := [.int (a1 + (1 : Int32))]) (rest := []) (wc := cRR ad_this cy_this (ad_this_tape 0) z_this_code_4 z_this_sumEnd z_this_testEnd z_this_size_5 z_this_clauses z_this_values_6 ++ cTp ad_this_tape cy_this_tape z_this_tape_bytes z_this_tape_length z_this_tape_kind_27 z_this_tape_sign_28 z_this_tape_fault_9 z_this_tape_start_29 z_this_tape_stop_30) (wr := []) (wf := cRR ad_this cy_this (ad_this_tape 0) z_this_code_34 z_this_sumEnd z_this_testEnd z_this_size_35 z_this_clauses z_this_values_36 ++ cTp ad_this_tape cy_this_tape z_this_tape_bytes z_this_tape_length z_this_tape_kind_37 z_this_tape_sign_38 z_this_tape_fault_39 z_this_tape_start_40 z_this_tape_stop_41) S hK hP hD hS hA hE (c6_readBracketed nn hrec hc42) [0, 1, 2, 3] [0, 1, 2, 3, 4, 5] [] [0, 1, 2, 3, 4, 5] rfl rfl rfl (by decide) (by decide) (by decide) rfl (by decide) (gdV mw_25_5 mw_25_6 mw_25_7 mw_2_1 mw_24_16) rfl rfl hd_f6_readBracketed ⟨(by show 24 + 3 * nn + 2 + 1 ≤ 24 + 3 * (nn + 1); omega), (by show 8 + (2 + 11) + (800 + nn * 67 + 46) ≤ 800 + (nn + 1) * 67; omega)⟩ (ci := 6) (q0 := 0) rfl rfl rfl hl.1 rfl (Nat.le_of_ble_eq_true rfl) dX6_readFact_71 (fun H locs hP hD hS => ?_)
        obtain ⟨hz, h⟩ := gd_el h
        obtain ⟨e_0, e_1, e_2, e_3, e_4, e_5, e_6, e_7, e_8⟩ := inj9 h
        subst e_0
        subst e_1
        subst e_2
        subst e_3
        subst e_4
        subst e_5
        subst e_6
        subst e_7
        subst e_8
        exact hret _ _ _ _ _ hP hD hS rfl (nzg hz) dX6_readFact_74
      · replace h := ite_f c32 h
        refine lv_aload_n hx hb dX6_readFact_57 rfl (lv_at hl 0 rfl) ?_
        refine lv_iload_n hx hb dX6_readFact_58 rfl (lv_at hl 1 rfl) ?_
        refine lv_iconst (v := (1 : Int32)) hx hb dX6_readFact_59 (by decide) ?_
        refine lv_iadd hx hb dX6_readFact_60 ?_
        obtain ⟨r_43, z_this_code_44, z_this_size_45, z_this_values_46, z_this_tape_kind_47, z_this_tape_sign_48, z_this_tape_fault_49, z_this_tape_start_50, z_this_tape_stop_51, hc52, h⟩ := bnd9_el h
        refine mfV_iE (As := [.int (a1 + (1 : Int32))]) (rest := []) (wc := cRR ad_this cy_this (ad_this_tape 0) z_this_code_4 z_this_sumEnd z_this_testEnd z_this_size_5 z_this_clauses z_this_values_6 ++ cTp ad_this_tape cy_this_tape z_this_tape_bytes z_this_tape_length z_this_tape_kind_27 z_this_tape_sign_28 z_this_tape_fault_9 z_this_tape_start_29 z_this_tape_stop_30) (wr := []) (wf := cRR ad_this cy_this (ad_this_tape 0) z_this_code_44 z_this_sumEnd z_this_testEnd z_this_size_45 z_this_clauses z_this_values_46 ++ cTp ad_this_tape cy_this_tape z_this_tape_bytes z_this_tape_length z_this_tape_kind_47 z_this_tape_sign_48 z_this_tape_fault_49 z_this_tape_start_50 z_this_tape_stop_51) S hK hP hD hS hA hE (c6_readNegated nn hrec hc52) [0, 1, 2, 3] [0, 1, 2, 3, 4, 5] [] [0, 1, 2, 3, 4, 5] rfl rfl rfl (by decide) (by decide) (by decide) rfl (by decide) (gdV mw_25_2 mw_25_3 mw_25_4 mw_2_1 mw_25_8) rfl rfl hd_f6_readNegated ⟨(by show 24 + 3 * nn + 1 + 1 ≤ 24 + 3 * (nn + 1); omega), (by show 8 + (3 + 11) + (800 + nn * 67 + 22) ≤ 800 + (nn + 1) * 67; omega)⟩ (ci := 6) (q0 := 0) rfl rfl rfl hl.1 rfl (Nat.le_of_ble_eq_true rfl) dX6_readFact_61 (fun H locs hP hD hS => ?_)
        refine lv_goto (tgt := 74) hx hb dX6_readFact_64 rfl ?_
        obtain ⟨hz, h⟩ := gd_el h
        obtain ⟨e_0, e_1, e_2, e_3, e_4, e_5, e_6, e_7, e_8⟩ := inj9 h
        subst e_0
        subst e_1
        subst e_2
        subst e_3
        subst e_4
        subst e_5
        subst e_6
        subst e_7
        subst e_8
        exact hret _ _ _ _ _ hP hD hS rfl (nzg hz) dX6_readFact_74
    · replace h := ite_f c26 h
      refine lv_aload_n hx hb dX6_readFact_37 rfl (lv_at hl 0 rfl) ?_
      refine va_get (ci := 6) (v := .ref (ad_this_tape 0)) (C := RX6) (T := TX6) (N := 7) hx hb hts inlX6 hown hK hP 0 rfl rfl 0 (by decide) (hts _ mw_4_14) (fun _ h9 => h9) rfl dX6_readFact_38 ?_
      refine lv_iconst (v := (2 : Int32)) hx hb dX6_readFact_41 (by decide) ?_
      obtain ⟨r_53, z_this_tape_fault_54, hc55, h⟩ := bnd2_el h
      refine mfV_i (As := [.int (2 : Int32)]) (rest := []) (wc := cTp ad_this_tape cy_this_tape z_this_tape_bytes z_this_tape_length z_this_tape_kind_7 z_this_tape_sign_8 z_this_tape_fault_9 z_this_tape_start_10 z_this_tape_stop_11) (wr := cRR ad_this cy_this (ad_this_tape 0) z_this_code_4 z_this_sumEnd z_this_testEnd z_this_size_5 z_this_clauses z_this_values_6) (wf := cRR ad_this cy_this (ad_this_tape 0) z_this_code_4 z_this_sumEnd z_this_testEnd z_this_size_5 z_this_clauses z_this_values_6 ++ cTp ad_this_tape cy_this_tape z_this_tape_bytes z_this_tape_length z_this_tape_kind_7 z_this_tape_sign_8 z_this_tape_fault_54 z_this_tape_start_10 z_this_tape_stop_11) S hK hP hD hS hA (c9_refuse hc55) [3] [4, 5] [0, 1, 2, 3] [0, 1, 2, 3, 4, 5] rfl rfl rfl (by decide) (by decide) (by decide) rfl (by decide) (gdV mw_23_11 mw_12_18 mw_12_19 mw_1_17 mw_12_20) rfl rfl hd_f9_refuse ⟨(by show 0 + 1 ≤ 24 + 3 * (nn + 1); omega), (by show 8 + (2 + 11) + (0) ≤ 800 + (nn + 1) * 67; omega)⟩ (ci := 9) (q0 := 0) rfl rfl rfl hl.1 rfl (Nat.le_of_ble_eq_true rfl) dX6_readFact_42 (fun H locs hP hD hS => ?_)
      obtain ⟨hz, h⟩ := gd_el h
      obtain ⟨e_0, e_1, e_2, e_3, e_4, e_5, e_6, e_7, e_8⟩ := inj9 h
      subst e_0
      subst e_1
      subst e_2
      subst e_3
      subst e_4
      subst e_5
      subst e_6
      subst e_7
      subst e_8
      exact hret _ _ _ _ _ hP hD hS rfl (nzg hz) dX6_readFact_45
  refine lv_aload_n hx hb dX6_readFact_0 rfl (lv_at hl 0 rfl) ?_
  refine va_get (ci := 6) (v := .ref (ad_this_tape 0)) (C := RX6) (T := TX6) (N := 7) hx hb hts inlX6 hown hK hP 0 rfl rfl 0 (by decide) (hts _ mw_4_14) (fun _ h9 => h9) rfl dX6_readFact_1 ?_
  refine va_ldcS hx hb hown hE.2.2.2.2.2.2.2.2.1 dX6_readFact_4 ?_
  obtain ⟨r_1, hc2, h⟩ := bnd1_el h
  refine mfV_iE (As := [.ref (adK 5)]) (rest := []) (wc := cTp ad_this_tape cy_this_tape z_this_tape_bytes z_this_tape_length z_this_tape_kind z_this_tape_sign z_this_tape_fault z_this_tape_start z_this_tape_stop) (wr := cRR ad_this cy_this (ad_this_tape 0) z_this_code z_this_sumEnd z_this_testEnd z_this_size z_this_clauses z_this_values) (wf := cRR ad_this cy_this (ad_this_tape 0) z_this_code z_this_sumEnd z_this_testEnd z_this_size z_this_clauses z_this_values ++ cTp ad_this_tape cy_this_tape z_this_tape_bytes z_this_tape_length z_this_tape_kind z_this_tape_sign z_this_tape_fault z_this_tape_start z_this_tape_stop) S hK hP hD hS hA hE (c9_isAtWord hc2 (by decide)) [3] [4, 5] [0, 1, 2, 3] [0, 1, 2, 3, 4, 5] rfl rfl rfl (by decide) (by decide) (by decide) rfl (by decide) (gdV mw_23_6 mw_23_7 mw_23_8 mw_1_17 mw_23_9) rfl rfl hd_f9_isAtWord ⟨(by show 6 + 1 ≤ 24 + 3 * (nn + 1); omega), (by show 8 + (2 + 11) + (128) ≤ 800 + (nn + 1) * 67; omega)⟩ (ci := 9) (q0 := 0) rfl rfl rfl hl.1 rfl (Nat.le_of_ble_eq_true rfl) dX6_readFact_6 (fun H locs hP hD hS => ?_)
  refine lv_istore_n (lv' := [(2, .int r_1), (0, .ref (ad_this 0)), (1, .int a1)]) hx hb dX6_readFact_9 rfl hl (by decide) rfl (fun ls hl => ?_)
  refine lv_iload_n hx hb dX6_readFact_10 rfl (lv_at hl 0 rfl) ?_
  refine lv_if_ne (tgt := 31) hx hb dX6_readFact_11 rfl (fun c3 => ?_) (fun c3 => ?_)
  · replace h := ite_f c3 h
    exact J31 z_this_code z_this_size z_this_values z_this_tape_kind z_this_tape_sign z_this_tape_fault z_this_tape_start z_this_tape_stop r_1 H locs ls h hP hD hS (lv_sub hl [1, 2, 0] rfl)
  · replace h := ite_t c3 h
    refine lv_aload_n hx hb dX6_readFact_14 rfl (lv_at hl 1 rfl) ?_
    refine va_get (ci := 6) (v := .ref (ad_this_tape 0)) (C := RX6) (T := TX6) (N := 7) hx hb hts inlX6 hown hK hP 0 rfl rfl 0 (by decide) (hts _ mw_4_14) (fun _ h9 => h9) rfl dX6_readFact_15 ?_
    refine lv_bipush (v := (91 : Int32)) hx hb dX6_readFact_18 (by decide) ?_
    obtain ⟨r_13, hc14, h⟩ := bnd1_el h
    refine mfV_i (As := [.int (91 : Int32)]) (rest := []) (wc := cTp ad_this_tape cy_this_tape z_this_tape_bytes z_this_tape_length z_this_tape_kind z_this_tape_sign z_this_tape_fault z_this_tape_start z_this_tape_stop) (wr := cRR ad_this cy_this (ad_this_tape 0) z_this_code z_this_sumEnd z_this_testEnd z_this_size z_this_clauses z_this_values) (wf := cRR ad_this cy_this (ad_this_tape 0) z_this_code z_this_sumEnd z_this_testEnd z_this_size z_this_clauses z_this_values ++ cTp ad_this_tape cy_this_tape z_this_tape_bytes z_this_tape_length z_this_tape_kind z_this_tape_sign z_this_tape_fault z_this_tape_start z_this_tape_stop) S hK hP hD hS hA (c9_isAt hc14) [3] [4, 5] [0, 1, 2, 3] [0, 1, 2, 3, 4, 5] rfl rfl rfl (by decide) (by decide) (by decide) rfl (by decide) (gdV mw_24_4 mw_14_22 mw_14_23 mw_1_17 mw_15_0) rfl rfl hd_f9_isAt ⟨(by show 0 + 1 ≤ 24 + 3 * (nn + 1); omega), (by show 8 + (2 + 11) + (0) ≤ 800 + (nn + 1) * 67; omega)⟩ (ci := 9) (q0 := 0) rfl rfl rfl hl.1 rfl (Nat.le_of_ble_eq_true rfl) dX6_readFact_20 (fun H locs hP hD hS => ?_)
    refine lv_if_ne (tgt := 31) hx hb dX6_readFact_23 rfl (fun c15 => ?_) (fun c15 => ?_)
    · replace h := ite_f c15 h
      exact J31 z_this_code z_this_size z_this_values z_this_tape_kind z_this_tape_sign z_this_tape_fault z_this_tape_start z_this_tape_stop r_1 H locs ls h hP hD hS (lv_sub hl [1, 2, 0] rfl)
    · replace h := ite_t c15 h
      refine lv_aload_n hx hb dX6_readFact_26 rfl (lv_at hl 1 rfl) ?_
      obtain ⟨r_16, z_this_code_17, z_this_size_18, z_this_values_19, z_this_tape_kind_20, z_this_tape_sign_21, z_this_tape_fault_22, z_this_tape_start_23, z_this_tape_stop_24, hc25, h⟩ := bnd9_el h
      refine mfV_iE (As := []) (rest := []) (wc := cRR ad_this cy_this (ad_this_tape 0) z_this_code z_this_sumEnd z_this_testEnd z_this_size z_this_clauses z_this_values ++ cTp ad_this_tape cy_this_tape z_this_tape_bytes z_this_tape_length z_this_tape_kind z_this_tape_sign z_this_tape_fault z_this_tape_start z_this_tape_stop) (wr := []) (wf := cRR ad_this cy_this (ad_this_tape 0) z_this_code_17 z_this_sumEnd z_this_testEnd z_this_size_18 z_this_clauses z_this_values_19 ++ cTp ad_this_tape cy_this_tape z_this_tape_bytes z_this_tape_length z_this_tape_kind_20 z_this_tape_sign_21 z_this_tape_fault_22 z_this_tape_start_23 z_this_tape_stop_24) S hK hP hD hS hA hE (c6_readComparison hc25) [0, 1, 2, 3] [0, 1, 2, 3, 4, 5] [] [0, 1, 2, 3, 4, 5] rfl rfl rfl (by decide) (by decide) (by decide) rfl (by decide) (gdV mw_24_18 mw_24_19 mw_24_20 mw_2_1 mw_24_21) rfl rfl hd_f6_readComparison ⟨(by show 8 + 1 ≤ 24 + 3 * (nn + 1); omega), (by show 8 + (2 + 11) + (174) ≤ 800 + (nn + 1) * 67; omega)⟩ (ci := 6) (q0 := 0) rfl rfl rfl hl.1 rfl (Nat.le_of_ble_eq_true rfl) dX6_readFact_27 (fun H locs hP hD hS => ?_)
      obtain ⟨hz, h⟩ := gd_el h
      obtain ⟨e_0, e_1, e_2, e_3, e_4, e_5, e_6, e_7, e_8⟩ := inj9 h
      subst e_0
      subst e_1
      subst e_2
      subst e_3
      subst e_4
      subst e_5
      subst e_6
      subst e_7
      subst e_8
      exact hret _ _ _ _ _ hP hD hS rfl (nzg hz) dX6_readFact_30
theorem c6_readFact {l : Launch} {D : va_G} (n : Nat) : ∀ {adK : Nat → Nat} {adV : Nat → Nat} {ad_this : Nat → Nat} {cy_this : Nat → ClassId} {z_this_code : Nat → Int32} {z_this_sumEnd : Nat → Int32} {z_this_testEnd : Nat → Int32} {z_this_size : Int32} {z_this_clauses : Int32} {z_this_values : Int32} {ad_this_tape : Nat → Nat} {cy_this_tape : Nat → ClassId} {z_this_tape_bytes : Nat → Int32} {z_this_tape_length : Int32} {z_this_tape_kind : Int32} {z_this_tape_sign : Int32} {z_this_tape_fault : Int32} {z_this_tape_start : Int32} {z_this_tape_stop : Int32} {a1 : Int32} {o_ret : Int32} {o_this_code : Nat → Int32} {o_this_size : Int32} {o_this_values : Int32} {o_this_tape_kind : Int32} {o_this_tape_sign : Int32} {o_this_tape_fault : Int32} {o_this_tape_start : Int32} {o_this_tape_stop : Int32}, f6_readFact n z_this_code z_this_size z_this_values z_this_tape_bytes z_this_tape_length z_this_tape_kind z_this_tape_sign z_this_tape_fault z_this_tape_start z_this_tape_stop a1 = some (o_ret, o_this_code, o_this_size, o_this_values, o_this_tape_kind, o_this_tape_sign, o_this_tape_fault, o_this_tape_start, o_this_tape_stop) → MetIE l yX6_readFact cX6_readFact 3 (some .boolean) (rm_f6_readFact n) D ([(cy_this 1, .int), (cy_this 2, .int), (cy_this 3, .int), (cy_this_tape 1, .int)]) (cRR ad_this cy_this (ad_this_tape 0) z_this_code z_this_sumEnd z_this_testEnd z_this_size z_this_clauses z_this_values ++ cTp ad_this_tape cy_this_tape z_this_tape_bytes z_this_tape_length z_this_tape_kind z_this_tape_sign z_this_tape_fault z_this_tape_start z_this_tape_stop) (cRR ad_this cy_this (ad_this_tape 0) o_this_code z_this_sumEnd z_this_testEnd o_this_size z_this_clauses o_this_values ++ cTp ad_this_tape cy_this_tape z_this_tape_bytes z_this_tape_length o_this_tape_kind o_this_tape_sign o_this_tape_fault o_this_tape_start o_this_tape_stop) [.ref (ad_this 0), .int a1] adK adV o_ret := by
  induction n with
  | zero => intros; rename_i h; cases h
  | succ n ih => intros; rename_i h; exact c6_readFact_body n ih h
/-! LadderLand$RuleReader.readText()Z  -/
def f6_readText_J127 (z_this_tape_bytes : Nat → Int32) (z_this_tape_length : Int32) (z_this_code_45 : Nat → Int32) (z_this_sumEnd_46 : Nat → Int32) (z_this_testEnd_47 : Nat → Int32) (z_this_size_48 : Int32) (z_this_clauses_49 : Int32) (z_this_values_50 : Int32) (z_this_tape_kind_51 : Int32) (z_this_tape_sign_52 : Int32) (z_this_tape_fault_53 : Int32) (z_this_tape_start_54 : Int32) (z_this_tape_stop_55 : Int32) (v1_56 : Int32) : Option (((Nat → Int32) × (Nat → Int32) × (Nat → Int32) × Int32 × Int32 × Int32 × Int32 × Int32 × Int32 × Int32 × Int32 × Int32) ⊕ ((Int32 × (Nat → Int32) × (Nat → Int32) × (Nat → Int32) × Int32 × Int32 × Int32 × Int32 × Int32 × Int32 × Int32 × Int32) ⊕ ((Nat → Int32) × (Nat → Int32) × (Nat → Int32) × Int32 × Int32 × Int32 × Int32 × Int32 × Int32 × Int32 × Int32))) :=
if z_this_clauses_49 < 0 ∨ 12 ≤ Int32.toNatClampNeg z_this_clauses_49 then none else (
lt (upd z_this_testEnd_47 (Int32.toNatClampNeg z_this_clauses_49) z_this_size_48) (fun z_this_testEnd_80 =>
lt ((z_this_clauses_49 + (1 : Int32))) (fun x_81 =>
if z_this_tape_kind_51 = 0 then (some (.inr (.inl ((1 : Int32), z_this_code_45, z_this_sumEnd_46, z_this_testEnd_80, z_this_size_48, x_81, z_this_values_50, z_this_tape_kind_51, z_this_tape_sign_52, z_this_tape_fault_53, z_this_tape_start_54, z_this_tape_stop_55)))) else (bnd1 (f9_isAt z_this_tape_kind_51 z_this_tape_sign_52 (59 : Int32)) (fun r_83 =>
if r_83 = 0 then (bnd2 (f9_refuse z_this_tape_fault_53 z_this_tape_start_54 (0 : Int32)) (fun r_92 z_this_tape_fault_93 =>
if r_92 = 0 ∨ r_92 = 1 then some (.inr (.inl (r_92, z_this_code_45, z_this_sumEnd_46, z_this_testEnd_80, z_this_size_48, x_81, z_this_values_50, z_this_tape_kind_51, z_this_tape_sign_52, z_this_tape_fault_93, z_this_tape_start_54, z_this_tape_stop_55))) else none)) else (bnd4 (f9_advance z_this_tape_bytes z_this_tape_length z_this_tape_kind_51 z_this_tape_sign_52 z_this_tape_start_54 z_this_tape_stop_55) (fun z_this_tape_kind_86 z_this_tape_sign_87 z_this_tape_start_88 z_this_tape_stop_89 =>
lt (v1_56 + (1 : Int32)) (fun v1_91 =>
some (.inl (z_this_code_45, z_this_sumEnd_46, z_this_testEnd_80, z_this_size_48, x_81, z_this_values_50, z_this_tape_kind_86, z_this_tape_sign_87, z_this_tape_fault_53, z_this_tape_start_88, z_this_tape_stop_89, v1_91))))))))))

def f6_readText_B24 (z_this_tape_bytes : Nat → Int32) (z_this_tape_length : Int32) (z_this_code_7 : Nat → Int32) (z_this_sumEnd_8 : Nat → Int32) (z_this_testEnd_9 : Nat → Int32) (z_this_size_10 : Int32) (z_this_clauses_11 : Int32) (z_this_values_12 : Int32) (z_this_tape_kind_13 : Int32) (z_this_tape_sign_14 : Int32) (z_this_tape_fault_15 : Int32) (z_this_tape_start_16 : Int32) (z_this_tape_stop_17 : Int32) (v1_18 : Int32) : Option (((Nat → Int32) × (Nat → Int32) × (Nat → Int32) × Int32 × Int32 × Int32 × Int32 × Int32 × Int32 × Int32 × Int32 × Int32) ⊕ ((Int32 × (Nat → Int32) × (Nat → Int32) × (Nat → Int32) × Int32 × Int32 × Int32 × Int32 × Int32 × Int32 × Int32 × Int32) ⊕ ((Nat → Int32) × (Nat → Int32) × (Nat → Int32) × Int32 × Int32 × Int32 × Int32 × Int32 × Int32 × Int32 × Int32))) :=
if (12 : Int32) < v1_18 then (some (.inr (.inr (z_this_code_7, z_this_sumEnd_8, z_this_testEnd_9, z_this_size_10, z_this_clauses_11, z_this_values_12, z_this_tape_kind_13, z_this_tape_sign_14, z_this_tape_fault_15, z_this_tape_start_16, z_this_tape_stop_17)))) else (bnd1 (f9_isAtWord z_this_tape_bytes z_this_tape_kind_13 z_this_tape_start_16 z_this_tape_stop_17 1) (fun r_20 =>
if r_20 = 0 then (bnd2 (f9_refuse z_this_tape_fault_15 z_this_tape_start_16 (0 : Int32)) (fun r_76 z_this_tape_fault_77 =>
if r_76 = 0 ∨ r_76 = 1 then some (.inr (.inl (r_76, z_this_code_7, z_this_sumEnd_8, z_this_testEnd_9, z_this_size_10, z_this_clauses_11, z_this_values_12, z_this_tape_kind_13, z_this_tape_sign_14, z_this_tape_fault_77, z_this_tape_start_16, z_this_tape_stop_17))) else none)) else (if z_this_clauses_11 < (12 : Int32) then (bnd4 (f9_advance z_this_tape_bytes z_this_tape_length z_this_tape_kind_13 z_this_tape_sign_14 z_this_tape_start_16 z_this_tape_stop_17) (fun z_this_tape_kind_24 z_this_tape_sign_25 z_this_tape_start_26 z_this_tape_stop_27 =>
bnd9 (f6_readSum z_this_code_7 z_this_size_10 z_this_values_12 z_this_tape_bytes z_this_tape_length z_this_tape_kind_24 z_this_tape_sign_25 z_this_tape_fault_15 z_this_tape_start_26 z_this_tape_stop_27) (fun r_29 z_this_code_30 z_this_size_31 z_this_values_32 z_this_tape_kind_33 z_this_tape_sign_34 z_this_tape_fault_35 z_this_tape_start_36 z_this_tape_stop_37 =>
if r_29 = 0 then (some (.inr (.inl ((0 : Int32), z_this_code_30, z_this_sumEnd_8, z_this_testEnd_9, z_this_size_31, z_this_clauses_11, z_this_values_32, z_this_tape_kind_33, z_this_tape_sign_34, z_this_tape_fault_35, z_this_tape_start_36, z_this_tape_stop_37)))) else (if z_this_clauses_11 < 0 ∨ 12 ≤ Int32.toNatClampNeg z_this_clauses_11 then none else (
lt (upd z_this_sumEnd_8 (Int32.toNatClampNeg z_this_clauses_11) z_this_size_31) (fun z_this_sumEnd_41 =>
bnd1 (f9_isAtWord z_this_tape_bytes z_this_tape_kind_33 z_this_tape_start_36 z_this_tape_stop_37 2) (fun r_42 =>
if r_42 = 0 then (f6_readText_J127 z_this_tape_bytes z_this_tape_length z_this_code_30 z_this_sumEnd_41 z_this_testEnd_9 z_this_size_31 z_this_clauses_11 z_this_values_32 z_this_tape_kind_33 z_this_tape_sign_34 z_this_tape_fault_35 z_this_tape_start_36 z_this_tape_stop_37 v1_18) else (bnd4 (f9_advance z_this_tape_bytes z_this_tape_length z_this_tape_kind_33 z_this_tape_sign_34 z_this_tape_start_36 z_this_tape_stop_37) (fun z_this_tape_kind_57 z_this_tape_sign_58 z_this_tape_start_59 z_this_tape_stop_60 =>
bnd9 (f6_readTest (f6_readFact 12) z_this_code_30 z_this_size_31 z_this_values_32 z_this_tape_bytes z_this_tape_length z_this_tape_kind_57 z_this_tape_sign_58 z_this_tape_fault_35 z_this_tape_start_59 z_this_tape_stop_60 (0 : Int32)) (fun r_62 z_this_code_63 z_this_size_64 z_this_values_65 z_this_tape_kind_66 z_this_tape_sign_67 z_this_tape_fault_68 z_this_tape_start_69 z_this_tape_stop_70 =>
if r_62 = 0 then (some (.inr (.inl ((0 : Int32), z_this_code_63, z_this_sumEnd_41, z_this_testEnd_9, z_this_size_64, z_this_clauses_11, z_this_values_65, z_this_tape_kind_66, z_this_tape_sign_67, z_this_tape_fault_68, z_this_tape_start_69, z_this_tape_stop_70)))) else (f6_readText_J127 z_this_tape_bytes z_this_tape_length z_this_code_63 z_this_sumEnd_41 z_this_testEnd_9 z_this_size_64 z_this_clauses_11 z_this_values_65 z_this_tape_kind_66 z_this_tape_sign_67 z_this_tape_fault_68 z_this_tape_start_69 z_this_tape_stop_70 v1_18))))))))))) else (bnd2 (f9_refuse z_this_tape_fault_15 z_this_tape_start_16 (4 : Int32)) (fun r_73 z_this_tape_fault_74 =>
if r_73 = 0 ∨ r_73 = 1 then some (.inr (.inl (r_73, z_this_code_7, z_this_sumEnd_8, z_this_testEnd_9, z_this_size_10, z_this_clauses_11, z_this_values_12, z_this_tape_kind_13, z_this_tape_sign_14, z_this_tape_fault_74, z_this_tape_start_16, z_this_tape_stop_17))) else none)))))

def f6_readText (z_this_code : Nat → Int32) (z_this_sumEnd : Nat → Int32) (z_this_testEnd : Nat → Int32) (z_this_size : Int32) (z_this_clauses : Int32) (z_this_values : Int32) (z_this_tape_bytes : Nat → Int32) (z_this_tape_length : Int32) (z_this_tape_kind : Int32) (z_this_tape_sign : Int32) (z_this_tape_fault : Int32) (z_this_tape_start : Int32) (z_this_tape_stop : Int32) : Option (Int32 × (Nat → Int32) × (Nat → Int32) × (Nat → Int32) × Int32 × Int32 × Int32 × Int32 × Int32 × Int32 × Int32 × Int32) :=
bnd5 (f9_open z_this_tape_bytes z_this_tape_length z_this_tape_kind z_this_tape_sign z_this_tape_fault z_this_tape_start z_this_tape_stop) (fun z_this_tape_kind_1 z_this_tape_sign_2 z_this_tape_fault_3 z_this_tape_start_4 z_this_tape_stop_5 =>
bndS11 (iter (fun (z : (Nat → Int32) × (Nat → Int32) × (Nat → Int32) × Int32 × Int32 × Int32 × Int32 × Int32 × Int32 × Int32 × Int32 × Int32) => f6_readText_B24 z_this_tape_bytes z_this_tape_length z.1 z.2.1 z.2.2.1 z.2.2.2.1 z.2.2.2.2.1 z.2.2.2.2.2.1 z.2.2.2.2.2.2.1 z.2.2.2.2.2.2.2.1 z.2.2.2.2.2.2.2.2.1 z.2.2.2.2.2.2.2.2.2.1 z.2.2.2.2.2.2.2.2.2.2.1 z.2.2.2.2.2.2.2.2.2.2.2) FUEL (z_this_code, z_this_sumEnd, z_this_testEnd, (0 : Int32), (0 : Int32), (0 : Int32), z_this_tape_kind_1, z_this_tape_sign_2, z_this_tape_fault_3, z_this_tape_start_4, z_this_tape_stop_5, (0 : Int32))) (fun q24 => some q24) (fun z_this_code_95 z_this_sumEnd_96 z_this_testEnd_97 z_this_size_98 z_this_clauses_99 z_this_values_100 z_this_tape_kind_101 z_this_tape_sign_102 z_this_tape_fault_103 z_this_tape_start_104 z_this_tape_stop_105 =>
some ((0 : Int32), z_this_code_95, z_this_sumEnd_96, z_this_testEnd_97, z_this_size_98, z_this_clauses_99, z_this_values_100, z_this_tape_kind_101, z_this_tape_sign_102, z_this_tape_fault_103, z_this_tape_start_104, z_this_tape_stop_105)))

abbrev rm_f6_readText : Room := { frames := 62, cells := 0, slots := 0, locals := 1650 }
theorem hd_f6_readText : yX6_readText.cls = RX6 ∧ yX6_readText.cls ≠ "java/lang/invoke/MethodHandle" ∧ yX6_readText.cls ≠ "java/lang/invoke/VarHandle" ∧ (parseMethodDescriptor yX6_readText.desc).map (fun d => d.parameters.length) = some 0 := by decide +kernel
set_option maxHeartbeats 4000000 in
set_option maxRecDepth 100000 in
theorem c6_readText {l : Launch} {D : va_G} {adK : Nat → Nat} {adV : Nat → Nat} {ad_this : Nat → Nat} {cy_this : Nat → ClassId} {z_this_code : Nat → Int32} {z_this_sumEnd : Nat → Int32} {z_this_testEnd : Nat → Int32} {z_this_size : Int32} {z_this_clauses : Int32} {z_this_values : Int32} {ad_this_tape : Nat → Nat} {cy_this_tape : Nat → ClassId} {z_this_tape_bytes : Nat → Int32} {z_this_tape_length : Int32} {z_this_tape_kind : Int32} {z_this_tape_sign : Int32} {z_this_tape_fault : Int32} {z_this_tape_start : Int32} {z_this_tape_stop : Int32} {o_ret : Int32} {o_this_code : Nat → Int32} {o_this_sumEnd : Nat → Int32} {o_this_testEnd : Nat → Int32} {o_this_size : Int32} {o_this_clauses : Int32} {o_this_values : Int32} {o_this_tape_kind : Int32} {o_this_tape_sign : Int32} {o_this_tape_fault : Int32} {o_this_tape_start : Int32} {o_this_tape_stop : Int32} (h : f6_readText z_this_code z_this_sumEnd z_this_testEnd z_this_size z_this_clauses z_this_values z_this_tape_bytes z_this_tape_length z_this_tape_kind z_this_tape_sign z_this_tape_fault z_this_tape_start z_this_tape_stop = some (o_ret, o_this_code, o_this_sumEnd, o_this_testEnd, o_this_size, o_this_clauses, o_this_values, o_this_tape_kind, o_this_tape_sign, o_this_tape_fault, o_this_tape_start, o_this_tape_stop)) : MetIE l yX6_readText cX6_readText 2 (some .boolean) rm_f6_readText D ([(cy_this 1, .int), (cy_this 2, .int), (cy_this 3, .int), (cy_this_tape 1, .int)]) (cRR ad_this cy_this (ad_this_tape 0) z_this_code z_this_sumEnd z_this_testEnd z_this_size z_this_clauses z_this_values ++ cTp ad_this_tape cy_this_tape z_this_tape_bytes z_this_tape_length z_this_tape_kind z_this_tape_sign z_this_tape_fault z_this_tape_start z_this_tape_stop) (cRR ad_this cy_this (ad_this_tape 0) o_this_code o_this_sumEnd o_this_testEnd o_this_size o_this_clauses o_this_values ++ cTp ad_this_tape cy_this_tape z_this_tape_bytes z_this_tape_length o_this_tape_kind o_this_tape_sign o_this_tape_fault o_this_tape_start o_this_tape_stop) [.ref (ad_this 0)] adK adV o_ret := by
  refine metIE_of (own := RX6) rfl (by decide) (Nat.le_of_ble_eq_true rfl) ?_
  intro p e s m args below meth c A Q ls S hK hA hP hD hS hl hE hret
  obtain ⟨hx, hb, hml, hown, hts⟩ := id S
  replace hl : lv_has ls 2 [(0, .ref (ad_this 0))] := hl
  generalize hH : s.heap = H at hP ⊢
  replace hS : va_S A s.heap H [] := by rw [← hH]; exact hS
  generalize hlo : ([] : List Loc) = locs at hS ⊢
  unfold f6_readText at h
  refine lv_aload_n hx hb dX6_readText_0 rfl (lv_at hl 0 rfl) ?_
  refine lv_iconst (v := (0 : Int32)) hx hb dX6_readText_1 (by decide) ?_
  refine va_put (ci := 6) (v := .int (0 : Int32)) (ty := .int) (C := RX6) (T := TX6) (N := 7) hx hb hts inlX6 tyX6 tyX6_ok nmX6 hown hK hP hD hS 0 rfl rfl 4 (by decide) (hts _ mw_23_1) (fun _ h9 => h9) rfl (by decide +kernel) rfl rfl (Nat.le_of_ble_eq_true rfl) dX6_readText_2 (fun H locs hP hD hS => ?_)
  replace hP : va_P D vwCl (cRR ad_this cy_this (ad_this_tape 0) z_this_code z_this_sumEnd z_this_testEnd (0 : Int32) z_this_clauses z_this_values ++ cTp ad_this_tape cy_this_tape z_this_tape_bytes z_this_tape_length z_this_tape_kind z_this_tape_sign z_this_tape_fault z_this_tape_start z_this_tape_stop) H := hP
  replace hD : va_D A (cRR ad_this cy_this (ad_this_tape 0) z_this_code z_this_sumEnd z_this_testEnd (0 : Int32) z_this_clauses z_this_values ++ cTp ad_this_tape cy_this_tape z_this_tape_bytes z_this_tape_length z_this_tape_kind z_this_tape_sign z_this_tape_fault z_this_tape_start z_this_tape_stop) := hD
  refine lv_aload_n hx hb dX6_readText_5 rfl (lv_at hl 0 rfl) ?_
  refine lv_iconst (v := (0 : Int32)) hx hb dX6_readText_6 (by decide) ?_
  refine va_put (ci := 6) (v := .int (0 : Int32)) (ty := .int) (C := RX6) (T := TX6) (N := 7) hx hb hts inlX6 tyX6 tyX6_ok nmX6 hown hK hP hD hS 0 rfl rfl 5 (by decide) (hts _ mw_23_2) (fun _ h9 => h9) rfl (by decide +kernel) rfl rfl (Nat.le_of_ble_eq_true rfl) dX6_readText_7 (fun H locs hP hD hS => ?_)
  replace hP : va_P D vwCl (cRR ad_this cy_this (ad_this_tape 0) z_this_code z_this_sumEnd z_this_testEnd (0 : Int32) (0 : Int32) z_this_values ++ cTp ad_this_tape cy_this_tape z_this_tape_bytes z_this_tape_length z_this_tape_kind z_this_tape_sign z_this_tape_fault z_this_tape_start z_this_tape_stop) H := hP
  replace hD : va_D A (cRR ad_this cy_this (ad_this_tape 0) z_this_code z_this_sumEnd z_this_testEnd (0 : Int32) (0 : Int32) z_this_values ++ cTp ad_this_tape cy_this_tape z_this_tape_bytes z_this_tape_length z_this_tape_kind z_this_tape_sign z_this_tape_fault z_this_tape_start z_this_tape_stop) := hD
  refine lv_aload_n hx hb dX6_readText_10 rfl (lv_at hl 0 rfl) ?_
  refine lv_iconst (v := (0 : Int32)) hx hb dX6_readText_11 (by decide) ?_
  refine va_put (ci := 6) (v := .int (0 : Int32)) (ty := .int) (C := RX6) (T := TX6) (N := 7) hx hb hts inlX6 tyX6 tyX6_ok nmX6 hown hK hP hD hS 0 rfl rfl 6 (by decide) (hts _ mw_23_3) (fun _ h9 => h9) rfl (by decide +kernel) rfl rfl (Nat.le_of_ble_eq_true rfl) dX6_readText_12 (fun H locs hP hD hS => ?_)
  replace hP : va_P D vwCl (cRR ad_this cy_this (ad_this_tape 0) z_this_code z_this_sumEnd z_this_testEnd (0 : Int32) (0 : Int32) (0 : Int32) ++ cTp ad_this_tape cy_this_tape z_this_tape_bytes z_this_tape_length z_this_tape_kind z_this_tape_sign z_this_tape_fault z_this_tape_start z_this_tape_stop) H := hP
  replace hD : va_D A (cRR ad_this cy_this (ad_this_tape 0) z_this_code z_this_sumEnd z_this_testEnd (0 : Int32) (0 : Int32) (0 : Int32) ++ cTp ad_this_tape cy_this_tape z_this_tape_bytes z_this_tape_length z_this_tape_kind z_this_tape_sign z_this_tape_fault z_this_tape_start z_this_tape_stop) := hD
  refine lv_aload_n hx hb dX6_readText_15 rfl (lv_at hl 0 rfl) ?_
  refine va_get (ci := 6) (v := .ref (ad_this_tape 0)) (C := RX6) (T := TX6) (N := 7) hx hb hts inlX6 hown hK hP 0 rfl rfl 0 (by decide) (hts _ mw_4_14) (fun _ h9 => h9) rfl dX6_readText_16 ?_
  obtain ⟨z_this_tape_kind_1, z_this_tape_sign_2, z_this_tape_fault_3, z_this_tape_start_4, z_this_tape_stop_5, hc6, h⟩ := bnd5_el h
  refine mfV_v (As := []) (rest := []) (wc := cTp ad_this_tape cy_this_tape z_this_tape_bytes z_this_tape_length z_this_tape_kind z_this_tape_sign z_this_tape_fault z_this_tape_start z_this_tape_stop) (wr := cRR ad_this cy_this (ad_this_tape 0) z_this_code z_this_sumEnd z_this_testEnd (0 : Int32) (0 : Int32) (0 : Int32)) (wf := cRR ad_this cy_this (ad_this_tape 0) z_this_code z_this_sumEnd z_this_testEnd (0 : Int32) (0 : Int32) (0 : Int32) ++ cTp ad_this_tape cy_this_tape z_this_tape_bytes z_this_tape_length z_this_tape_kind_1 z_this_tape_sign_2 z_this_tape_fault_3 z_this_tape_start_4 z_this_tape_stop_5) S hK hP hD hS hA (c9_open hc6) [3] [4, 5] [0, 1, 2, 3] [0, 1, 2, 3, 4, 5] rfl rfl rfl (by decide) (by decide) (by decide) rfl (by decide) (gdV mw_23_5 mw_9_19 mw_9_20 mw_1_17 mw_9_21) rfl rfl hd_f9_open ⟨Nat.le_of_ble_eq_true rfl, Nat.le_of_ble_eq_true rfl⟩ (ci := 9) (q0 := 0) rfl rfl rfl hl.1 rfl (Nat.le_of_ble_eq_true rfl) dX6_readText_19 (fun H locs hP hD hS => ?_)
  refine lv_iconst (v := (0 : Int32)) hx hb dX6_readText_22 (by decide) ?_
  refine lv_istore_n (lv' := [(1, .int (0 : Int32)), (0, .ref (ad_this 0))]) hx hb dX6_readText_23 rfl hl (by decide) rfl (fun ls hl => ?_)
  have B24 : ∀ (z_this_code_7 : Nat → Int32) (z_this_sumEnd_8 : Nat → Int32) (z_this_testEnd_9 : Nat → Int32) (z_this_size_10 : Int32) (z_this_clauses_11 : Int32) (z_this_values_12 : Int32) (z_this_tape_kind_13 : Int32) (z_this_tape_sign_14 : Int32) (z_this_tape_fault_15 : Int32) (z_this_tape_start_16 : Int32) (z_this_tape_stop_17 : Int32) (v1_18 : Int32) (r : ((Nat → Int32) × (Nat → Int32) × (Nat → Int32) × Int32 × Int32 × Int32 × Int32 × Int32 × Int32 × Int32 × Int32 × Int32) ⊕ ((Int32 × (Nat → Int32) × (Nat → Int32) × (Nat → Int32) × Int32 × Int32 × Int32 × Int32 × Int32 × Int32 × Int32 × Int32) ⊕ ((Nat → Int32) × (Nat → Int32) × (Nat → Int32) × Int32 × Int32 × Int32 × Int32 × Int32 × Int32 × Int32 × Int32))) (H : Heap) (locs : List Loc) (ls : Array Slot), f6_readText_B24 z_this_tape_bytes z_this_tape_length z_this_code_7 z_this_sumEnd_8 z_this_testEnd_9 z_this_size_10 z_this_clauses_11 z_this_values_12 z_this_tape_kind_13 z_this_tape_sign_14 z_this_tape_fault_15 z_this_tape_start_16 z_this_tape_stop_17 v1_18 = some r → va_P D vwCl (cRR ad_this cy_this (ad_this_tape 0) z_this_code_7 z_this_sumEnd_8 z_this_testEnd_9 z_this_size_10 z_this_clauses_11 z_this_values_12 ++ cTp ad_this_tape cy_this_tape z_this_tape_bytes z_this_tape_length z_this_tape_kind_13 z_this_tape_sign_14 z_this_tape_fault_15 z_this_tape_start_16 z_this_tape_stop_17) H → va_D A (cRR ad_this cy_this (ad_this_tape 0) z_this_code_7 z_this_sumEnd_8 z_this_testEnd_9 z_this_size_10 z_this_clauses_11 z_this_values_12 ++ cTp ad_this_tape cy_this_tape z_this_tape_bytes z_this_tape_length z_this_tape_kind_13 z_this_tape_sign_14 z_this_tape_fault_15 z_this_tape_start_16 z_this_tape_stop_17) → va_S A s.heap H locs → lv_has ls 2 [(0, .ref (ad_this 0)), (1, .int v1_18)] → (∀ (z_this_code_7 : Nat → Int32) (z_this_sumEnd_8 : Nat → Int32) (z_this_testEnd_9 : Nat → Int32) (z_this_size_10 : Int32) (z_this_clauses_11 : Int32) (z_this_values_12 : Int32) (z_this_tape_kind_13 : Int32) (z_this_tape_sign_14 : Int32) (z_this_tape_fault_15 : Int32) (z_this_tape_start_16 : Int32) (z_this_tape_stop_17 : Int32) (v1_18 : Int32), r = .inl (z_this_code_7, z_this_sumEnd_8, z_this_testEnd_9, z_this_size_10, z_this_clauses_11, z_this_values_12, z_this_tape_kind_13, z_this_tape_sign_14, z_this_tape_fault_15, z_this_tape_start_16, z_this_tape_stop_17, v1_18) → ∀ (H : Heap) (locs : List Loc) (ls : Array Slot), va_P D vwCl (cRR ad_this cy_this (ad_this_tape 0) z_this_code_7 z_this_sumEnd_8 z_this_testEnd_9 z_this_size_10 z_this_clauses_11 z_this_values_12 ++ cTp ad_this_tape cy_this_tape z_this_tape_bytes z_this_tape_length z_this_tape_kind_13 z_this_tape_sign_14 z_this_tape_fault_15 z_this_tape_start_16 z_this_tape_stop_17) H → va_D A (cRR ad_this cy_this (ad_this_tape 0) z_this_code_7 z_this_sumEnd_8 z_this_testEnd_9 z_this_size_10 z_this_clauses_11 z_this_values_12 ++ cTp ad_this_tape cy_this_tape z_this_tape_bytes z_this_tape_length z_this_tape_kind_13 z_this_tape_sign_14 z_this_tape_fault_15 z_this_tape_start_16 z_this_tape_stop_17) → va_S A s.heap H locs → lv_has ls 2 [(0, .ref (ad_this 0)), (1, .int v1_18)] → W p l e rm_f6_readText s m args below meth c H locs 0 0 Q (F0 m 24 ls [])) → (∀ (z_this_code_95 : Nat → Int32) (z_this_sumEnd_96 : Nat → Int32) (z_this_testEnd_97 : Nat → Int32) (z_this_size_98 : Int32) (z_this_clauses_99 : Int32) (z_this_values_100 : Int32) (z_this_tape_kind_101 : Int32) (z_this_tape_sign_102 : Int32) (z_this_tape_fault_103 : Int32) (z_this_tape_start_104 : Int32) (z_this_tape_stop_105 : Int32), r = .inr (.inr (z_this_code_95, z_this_sumEnd_96, z_this_testEnd_97, z_this_size_98, z_this_clauses_99, z_this_values_100, z_this_tape_kind_101, z_this_tape_sign_102, z_this_tape_fault_103, z_this_tape_start_104, z_this_tape_stop_105)) → ∀ (H : Heap) (locs : List Loc) (ls : Array Slot), va_P D vwCl (cRR ad_this cy_this (ad_this_tape 0) z_this_code_95 z_this_sumEnd_96 z_this_testEnd_97 z_this_size_98 z_this_clauses_99 z_this_values_100 ++ cTp ad_this_tape cy_this_tape z_this_tape_bytes z_this_tape_length z_this_tape_kind_101 z_this_tape_sign_102 z_this_tape_fault_103 z_this_tape_start_104 z_this_tape_stop_105) H → va_D A (cRR ad_this cy_this (ad_this_tape 0) z_this_code_95 z_this_sumEnd_96 z_this_testEnd_97 z_this_size_98 z_this_clauses_99 z_this_values_100 ++ cTp ad_this_tape cy_this_tape z_this_tape_bytes z_this_tape_length z_this_tape_kind_101 z_this_tape_sign_102 z_this_tape_fault_103 z_this_tape_start_104 z_this_tape_stop_105) → va_S A s.heap H locs → lv_has ls 2 [] → W p l e rm_f6_readText s m args below meth c H locs 0 0 Q (F0 m 196 ls [])) → (∀ q, r = .inr (.inl q) → q = (o_ret, o_this_code, o_this_sumEnd, o_this_testEnd, o_this_size, o_this_clauses, o_this_values, o_this_tape_kind, o_this_tape_sign, o_this_tape_fault, o_this_tape_start, o_this_tape_stop)) → W p l e rm_f6_readText s m args below meth c H locs 0 0 Q (F0 m 24 ls []) := by
    intro z_this_code_7 z_this_sumEnd_8 z_this_testEnd_9 z_this_size_10 z_this_clauses_11 z_this_values_12 z_this_tape_kind_13 z_this_tape_sign_14 z_this_tape_fault_15 z_this_tape_start_16 z_this_tape_stop_17 v1_18 r H locs ls h hP hD hS hl kl kx kr
    unfold f6_readText_B24 at h
    have J127 : ∀ (z_this_code_45 : Nat → Int32) (z_this_sumEnd_46 : Nat → Int32) (z_this_testEnd_47 : Nat → Int32) (z_this_size_48 : Int32) (z_this_clauses_49 : Int32) (z_this_values_50 : Int32) (z_this_tape_kind_51 : Int32) (z_this_tape_sign_52 : Int32) (z_this_tape_fault_53 : Int32) (z_this_tape_start_54 : Int32) (z_this_tape_stop_55 : Int32) (v1_56 : Int32) (H : Heap) (locs : List Loc) (ls : Array Slot), f6_readText_J127 z_this_tape_bytes z_this_tape_length z_this_code_45 z_this_sumEnd_46 z_this_testEnd_47 z_this_size_48 z_this_clauses_49 z_this_values_50 z_this_tape_kind_51 z_this_tape_sign_52 z_this_tape_fault_53 z_this_tape_start_54 z_this_tape_stop_55 v1_56 = some r → va_P D vwCl (cRR ad_this cy_this (ad_this_tape 0) z_this_code_45 z_this_sumEnd_46 z_this_testEnd_47 z_this_size_48 z_this_clauses_49 z_this_values_50 ++ cTp ad_this_tape cy_this_tape z_this_tape_bytes z_this_tape_length z_this_tape_kind_51 z_this_tape_sign_52 z_this_tape_fault_53 z_this_tape_start_54 z_this_tape_stop_55) H → va_D A (cRR ad_this cy_this (ad_this_tape 0) z_this_code_45 z_this_sumEnd_46 z_this_testEnd_47 z_this_size_48 z_this_clauses_49 z_this_values_50 ++ cTp ad_this_tape cy_this_tape z_this_tape_bytes z_this_tape_length z_this_tape_kind_51 z_this_tape_sign_52 z_this_tape_fault_53 z_this_tape_start_54 z_this_tape_stop_55) → va_S A s.heap H locs → lv_has ls 2 [(0, .ref (ad_this 0)), (1, .int v1_56)] → W p l e rm_f6_readText s m args below meth c H locs 0 0 Q (F0 m 127 ls []) := by
      intro z_this_code_45 z_this_sumEnd_46 z_this_testEnd_47 z_this_size_48 z_this_clauses_49 z_this_values_50 z_this_tape_kind_51 z_this_tape_sign_52 z_this_tape_fault_53 z_this_tape_start_54 z_this_tape_stop_55 v1_56 H locs ls h hP hD hS hl
      unfold f6_readText_J127 at h
      refine lv_aload_n hx hb dX6_readText_127 rfl (lv_at hl 0 rfl) ?_
      refine va_get (ci := 6) (v := .ref (ad_this 3)) (C := RX6) (T := TX6) (N := 7) hx hb hts inlX6 hown hK hP 0 rfl rfl 3 (by decide) (hts _ mw_4_13) (fun _ h9 => h9) rfl dX6_readText_128 ?_
      refine lv_aload_n hx hb dX6_readText_131 rfl (lv_at hl 0 rfl) ?_
      refine va_get (ci := 6) (v := .int z_this_clauses_49) (C := RX6) (T := TX6) (N := 7) hx hb hts inlX6 hown hK hP 0 rfl rfl 5 (by decide) (hts _ mw_23_2) (fun _ h9 => h9) rfl dX6_readText_132 ?_
      refine lv_aload_n hx hb dX6_readText_135 rfl (lv_at hl 0 rfl) ?_
      refine va_get (ci := 6) (v := .int z_this_size_48) (C := RX6) (T := TX6) (N := 7) hx hb hts inlX6 hown hK hP 0 rfl rfl 4 (by decide) (hts _ mw_23_1) (fun _ h9 => h9) rfl dX6_readText_136 ?_
      obtain ⟨b79, h⟩ := bd_el h
      refine as_i (f := z_this_testEnd_47) hx hb hK hP hD hS 3 2 rfl rfl b79 dX6_readText_139 (fun z_this_testEnd_80 H locs ez_this_testEnd_80 hP hD hS => ?_)
      replace h := lt_ex ez_this_testEnd_80 h
      replace hP : va_P D vwCl (cRR ad_this cy_this (ad_this_tape 0) z_this_code_45 z_this_sumEnd_46 z_this_testEnd_80 z_this_size_48 z_this_clauses_49 z_this_values_50 ++ cTp ad_this_tape cy_this_tape z_this_tape_bytes z_this_tape_length z_this_tape_kind_51 z_this_tape_sign_52 z_this_tape_fault_53 z_this_tape_start_54 z_this_tape_stop_55) H := hP
      replace hD : va_D A (cRR ad_this cy_this (ad_this_tape 0) z_this_code_45 z_this_sumEnd_46 z_this_testEnd_80 z_this_size_48 z_this_clauses_49 z_this_values_50 ++ cTp ad_this_tape cy_this_tape z_this_tape_bytes z_this_tape_length z_this_tape_kind_51 z_this_tape_sign_52 z_this_tape_fault_53 z_this_tape_start_54 z_this_tape_stop_55) := hD
      refine lv_aload_n hx hb dX6_readText_140 rfl (lv_at hl 0 rfl) ?_
      refine lv_dup hx hb dX6_readText_141 rfl ?_
      refine va_get (ci := 6) (v := .int z_this_clauses_49) (C := RX6) (T := TX6) (N := 7) hx hb hts inlX6 hown hK hP 0 rfl rfl 5 (by decide) (hts _ mw_23_2) (fun _ h9 => h9) rfl dX6_readText_142 ?_
      refine lv_iconst (v := (1 : Int32)) hx hb dX6_readText_145 (by decide) ?_
      refine lv_iadd hx hb dX6_readText_146 ?_
      refine lv_topi (fun x_81 ex_81 => ?_)
      replace h := lt_ex ex_81 h
      refine va_put (ci := 6) (v := .int x_81) (ty := .int) (C := RX6) (T := TX6) (N := 7) hx hb hts inlX6 tyX6 tyX6_ok nmX6 hown hK hP hD hS 0 rfl rfl 5 (by decide) (hts _ mw_23_2) (fun _ h9 => h9) rfl (by decide +kernel) rfl rfl (Nat.le_of_ble_eq_true rfl) dX6_readText_147 (fun H locs hP hD hS => ?_)
      replace hP : va_P D vwCl (cRR ad_this cy_this (ad_this_tape 0) z_this_code_45 z_this_sumEnd_46 z_this_testEnd_80 z_this_size_48 x_81 z_this_values_50 ++ cTp ad_this_tape cy_this_tape z_this_tape_bytes z_this_tape_length z_this_tape_kind_51 z_this_tape_sign_52 z_this_tape_fault_53 z_this_tape_start_54 z_this_tape_stop_55) H := hP
      replace hD : va_D A (cRR ad_this cy_this (ad_this_tape 0) z_this_code_45 z_this_sumEnd_46 z_this_testEnd_80 z_this_size_48 x_81 z_this_values_50 ++ cTp ad_this_tape cy_this_tape z_this_tape_bytes z_this_tape_length z_this_tape_kind_51 z_this_tape_sign_52 z_this_tape_fault_53 z_this_tape_start_54 z_this_tape_stop_55) := hD
      refine lv_aload_n hx hb dX6_readText_150 rfl (lv_at hl 0 rfl) ?_
      refine va_get (ci := 6) (v := .ref (ad_this_tape 0)) (C := RX6) (T := TX6) (N := 7) hx hb hts inlX6 hown hK hP 0 rfl rfl 0 (by decide) (hts _ mw_4_14) (fun _ h9 => h9) rfl dX6_readText_151 ?_
      refine va_get (ci := 9) (v := .int z_this_tape_kind_51) (C := RX9) (T := TX9) (N := 7) hx hb hts inlX9 hown hK hP 4 rfl rfl 2 (by decide) (hts _ mw_23_4) (fun _ h9 => h9) rfl dX6_readText_154 ?_
      refine lv_if_ne (tgt := 162) hx hb dX6_readText_157 rfl (fun c82 => ?_) (fun c82 => ?_)
      · replace h := ite_f c82 h
        refine lv_aload_n hx hb dX6_readText_162 rfl (lv_at hl 0 rfl) ?_
        refine va_get (ci := 6) (v := .ref (ad_this_tape 0)) (C := RX6) (T := TX6) (N := 7) hx hb hts inlX6 hown hK hP 0 rfl rfl 0 (by decide) (hts _ mw_4_14) (fun _ h9 => h9) rfl dX6_readText_163 ?_
        refine lv_bipush (v := (59 : Int32)) hx hb dX6_readText_166 (by decide) ?_
        obtain ⟨r_83, hc84, h⟩ := bnd1_el h
        refine mfV_i (As := [.int (59 : Int32)]) (rest := []) (wc := cTp ad_this_tape cy_this_tape z_this_tape_bytes z_this_tape_length z_this_tape_kind_51 z_this_tape_sign_52 z_this_tape_fault_53 z_this_tape_start_54 z_this_tape_stop_55) (wr := cRR ad_this cy_this (ad_this_tape 0) z_this_code_45 z_this_sumEnd_46 z_this_testEnd_80 z_this_size_48 x_81 z_this_values_50) (wf := cRR ad_this cy_this (ad_this_tape 0) z_this_code_45 z_this_sumEnd_46 z_this_testEnd_80 z_this_size_48 x_81 z_this_values_50 ++ cTp ad_this_tape cy_this_tape z_this_tape_bytes z_this_tape_length z_this_tape_kind_51 z_this_tape_sign_52 z_this_tape_fault_53 z_this_tape_start_54 z_this_tape_stop_55) S hK hP hD hS hA (c9_isAt hc84) [3] [4, 5] [0, 1, 2, 3] [0, 1, 2, 3, 4, 5] rfl rfl rfl (by decide) (by decide) (by decide) rfl (by decide) (gdV mw_24_4 mw_14_22 mw_14_23 mw_1_17 mw_15_0) rfl rfl hd_f9_isAt ⟨Nat.le_of_ble_eq_true rfl, Nat.le_of_ble_eq_true rfl⟩ (ci := 9) (q0 := 0) rfl rfl rfl hl.1 rfl (Nat.le_of_ble_eq_true rfl) dX6_readText_168 (fun H locs hP hD hS => ?_)
        refine lv_if_ne (tgt := 183) hx hb dX6_readText_171 rfl (fun c85 => ?_) (fun c85 => ?_)
        · replace h := ite_f c85 h
          refine lv_aload_n hx hb dX6_readText_183 rfl (lv_at hl 0 rfl) ?_
          refine va_get (ci := 6) (v := .ref (ad_this_tape 0)) (C := RX6) (T := TX6) (N := 7) hx hb hts inlX6 hown hK hP 0 rfl rfl 0 (by decide) (hts _ mw_4_14) (fun _ h9 => h9) rfl dX6_readText_184 ?_
          obtain ⟨z_this_tape_kind_86, z_this_tape_sign_87, z_this_tape_start_88, z_this_tape_stop_89, hc90, h⟩ := bnd4_el h
          refine mfV_v (As := []) (rest := []) (wc := cTp ad_this_tape cy_this_tape z_this_tape_bytes z_this_tape_length z_this_tape_kind_51 z_this_tape_sign_52 z_this_tape_fault_53 z_this_tape_start_54 z_this_tape_stop_55) (wr := cRR ad_this cy_this (ad_this_tape 0) z_this_code_45 z_this_sumEnd_46 z_this_testEnd_80 z_this_size_48 x_81 z_this_values_50) (wf := cRR ad_this cy_this (ad_this_tape 0) z_this_code_45 z_this_sumEnd_46 z_this_testEnd_80 z_this_size_48 x_81 z_this_values_50 ++ cTp ad_this_tape cy_this_tape z_this_tape_bytes z_this_tape_length z_this_tape_kind_86 z_this_tape_sign_87 z_this_tape_fault_53 z_this_tape_start_88 z_this_tape_stop_89) S hK hP hD hS hA (c9_advance hc90) [3] [4, 5] [0, 1, 2, 3] [0, 1, 2, 3, 4, 5] rfl rfl rfl (by decide) (by decide) (by decide) rfl (by decide) (gdV mw_23_12 mw_10_1 mw_10_2 mw_1_17 mw_10_3) rfl rfl hd_f9_advance ⟨Nat.le_of_ble_eq_true rfl, Nat.le_of_ble_eq_true rfl⟩ (ci := 9) (q0 := 0) rfl rfl rfl hl.1 rfl (Nat.le_of_ble_eq_true rfl) dX6_readText_187 (fun H locs hP hD hS => ?_)
          obtain ⟨v1_91, ev1_91, h⟩ := lt_el h
          refine lv_iinc (v := v1_91) (lv' := [(1, .int v1_91), (0, .ref (ad_this 0))]) hx hb dX6_readText_190 hl (k := 1) rfl (by rw [ev1_91]; rfl) (by decide) rfl (fun ls hl => ?_)
          refine lv_goto (tgt := 24) hx hb dX6_readText_193 rfl ?_
          cases h
          exact kl _ _ _ _ _ _ _ _ _ _ _ _ rfl H locs ls hP hD hS (lv_sub hl [1, 0] rfl)
        · replace h := ite_t c85 h
          refine lv_aload_n hx hb dX6_readText_174 rfl (lv_at hl 0 rfl) ?_
          refine va_get (ci := 6) (v := .ref (ad_this_tape 0)) (C := RX6) (T := TX6) (N := 7) hx hb hts inlX6 hown hK hP 0 rfl rfl 0 (by decide) (hts _ mw_4_14) (fun _ h9 => h9) rfl dX6_readText_175 ?_
          refine lv_iconst (v := (0 : Int32)) hx hb dX6_readText_178 (by decide) ?_
          obtain ⟨r_92, z_this_tape_fault_93, hc94, h⟩ := bnd2_el h
          refine mfV_i (As := [.int (0 : Int32)]) (rest := []) (wc := cTp ad_this_tape cy_this_tape z_this_tape_bytes z_this_tape_length z_this_tape_kind_51 z_this_tape_sign_52 z_this_tape_fault_53 z_this_tape_start_54 z_this_tape_stop_55) (wr := cRR ad_this cy_this (ad_this_tape 0) z_this_code_45 z_this_sumEnd_46 z_this_testEnd_80 z_this_size_48 x_81 z_this_values_50) (wf := cRR ad_this cy_this (ad_this_tape 0) z_this_code_45 z_this_sumEnd_46 z_this_testEnd_80 z_this_size_48 x_81 z_this_values_50 ++ cTp ad_this_tape cy_this_tape z_this_tape_bytes z_this_tape_length z_this_tape_kind_51 z_this_tape_sign_52 z_this_tape_fault_93 z_this_tape_start_54 z_this_tape_stop_55) S hK hP hD hS hA (c9_refuse hc94) [3] [4, 5] [0, 1, 2, 3] [0, 1, 2, 3, 4, 5] rfl rfl rfl (by decide) (by decide) (by decide) rfl (by decide) (gdV mw_23_11 mw_12_18 mw_12_19 mw_1_17 mw_12_20) rfl rfl hd_f9_refuse ⟨Nat.le_of_ble_eq_true rfl, Nat.le_of_ble_eq_true rfl⟩ (ci := 9) (q0 := 0) rfl rfl rfl hl.1 rfl (Nat.le_of_ble_eq_true rfl) dX6_readText_179 (fun H locs hP hD hS => ?_)
          obtain ⟨hz, h⟩ := gd_el h
          cases h
          obtain ⟨e_0, e_1, e_2, e_3, e_4, e_5, e_6, e_7, e_8, e_9, e_10, e_11⟩ := jnj12 (kr _ rfl)
          subst e_0
          subst e_1
          subst e_2
          subst e_3
          subst e_4
          subst e_5
          subst e_6
          subst e_7
          subst e_8
          subst e_9
          subst e_10
          subst e_11
          exact hret _ _ _ _ _ hP hD hS rfl (nzg hz) dX6_readText_182
      · replace h := ite_t c82 h
        refine lv_iconst (v := (1 : Int32)) hx hb dX6_readText_160 (by decide) ?_
        cases h
        obtain ⟨e_0, e_1, e_2, e_3, e_4, e_5, e_6, e_7, e_8, e_9, e_10, e_11⟩ := jnj12 (kr _ rfl)
        subst e_0
        subst e_1
        subst e_2
        subst e_3
        subst e_4
        subst e_5
        subst e_6
        subst e_7
        subst e_8
        subst e_9
        subst e_10
        subst e_11
        exact hret _ _ _ _ _ hP hD hS rfl nz1 dX6_readText_161
    refine lv_iload_n hx hb dX6_readText_24 rfl (lv_at hl 1 rfl) ?_
    refine lv_bipush (v := (12 : Int32)) hx hb dX6_readText_25 (by decide) ?_
    refine lv_icmp_gt (tgt := 196) hx hb dX6_readText_27 rfl (fun c19 => ?_) (fun c19 => ?_)
    · replace h := ite_t c19 h
      cases h
      exact kx _ _ _ _ _ _ _ _ _ _ _ rfl H locs ls hP hD hS (lv_sub hl [] rfl)
    · replace h := ite_f c19 h
      refine lv_aload_n hx hb dX6_readText_30 rfl (lv_at hl 0 rfl) ?_
      refine va_get (ci := 6) (v := .ref (ad_this_tape 0)) (C := RX6) (T := TX6) (N := 7) hx hb hts inlX6 hown hK hP 0 rfl rfl 0 (by decide) (hts _ mw_4_14) (fun _ h9 => h9) rfl dX6_readText_31 ?_
      refine va_ldcS hx hb hown hE.2.2.2.2.1 dX6_readText_34 ?_
      obtain ⟨r_20, hc21, h⟩ := bnd1_el h
      refine mfV_iE (As := [.ref (adK 1)]) (rest := []) (wc := cTp ad_this_tape cy_this_tape z_this_tape_bytes z_this_tape_length z_this_tape_kind_13 z_this_tape_sign_14 z_this_tape_fault_15 z_this_tape_start_16 z_this_tape_stop_17) (wr := cRR ad_this cy_this (ad_this_tape 0) z_this_code_7 z_this_sumEnd_8 z_this_testEnd_9 z_this_size_10 z_this_clauses_11 z_this_values_12) (wf := cRR ad_this cy_this (ad_this_tape 0) z_this_code_7 z_this_sumEnd_8 z_this_testEnd_9 z_this_size_10 z_this_clauses_11 z_this_values_12 ++ cTp ad_this_tape cy_this_tape z_this_tape_bytes z_this_tape_length z_this_tape_kind_13 z_this_tape_sign_14 z_this_tape_fault_15 z_this_tape_start_16 z_this_tape_stop_17) S hK hP hD hS hA hE (c9_isAtWord hc21 (by decide)) [3] [4, 5] [0, 1, 2, 3] [0, 1, 2, 3, 4, 5] rfl rfl rfl (by decide) (by decide) (by decide) rfl (by decide) (gdV mw_23_6 mw_23_7 mw_23_8 mw_1_17 mw_23_9) rfl rfl hd_f9_isAtWord ⟨Nat.le_of_ble_eq_true rfl, Nat.le_of_ble_eq_true rfl⟩ (ci := 9) (q0 := 0) rfl rfl rfl hl.1 rfl (Nat.le_of_ble_eq_true rfl) dX6_readText_36 (fun H locs hP hD hS => ?_)
      refine lv_if_ne (tgt := 51) hx hb dX6_readText_39 rfl (fun c22 => ?_) (fun c22 => ?_)
      · replace h := ite_f c22 h
        refine lv_aload_n hx hb dX6_readText_51 rfl (lv_at hl 0 rfl) ?_
        refine va_get (ci := 6) (v := .int z_this_clauses_11) (C := RX6) (T := TX6) (N := 7) hx hb hts inlX6 hown hK hP 0 rfl rfl 5 (by decide) (hts _ mw_23_2) (fun _ h9 => h9) rfl dX6_readText_52 ?_
        refine lv_bipush (v := (12 : Int32)) hx hb dX6_readText_55 (by decide) ?_
        refine lv_icmp_lt (tgt := 69) hx hb dX6_readText_57 rfl (fun c23 => ?_) (fun c23 => ?_)
        · replace h := ite_t c23 h
          refine lv_aload_n hx hb dX6_readText_69 rfl (lv_at hl 0 rfl) ?_
          refine va_get (ci := 6) (v := .ref (ad_this_tape 0)) (C := RX6) (T := TX6) (N := 7) hx hb hts inlX6 hown hK hP 0 rfl rfl 0 (by decide) (hts _ mw_4_14) (fun _ h9 => h9) rfl dX6_readText_70 ?_
          obtain ⟨z_this_tape_kind_24, z_this_tape_sign_25, z_this_tape_start_26, z_this_tape_stop_27, hc28, h⟩ := bnd4_el h
          refine mfV_v (As := []) (rest := []) (wc := cTp ad_this_tape cy_this_tape z_this_tape_bytes z_this_tape_length z_this_tape_kind_13 z_this_tape_sign_14 z_this_tape_fault_15 z_this_tape_start_16 z_this_tape_stop_17) (wr := cRR ad_this cy_this (ad_this_tape 0) z_this_code_7 z_this_sumEnd_8 z_this_testEnd_9 z_this_size_10 z_this_clauses_11 z_this_values_12) (wf := cRR ad_this cy_this (ad_this_tape 0) z_this_code_7 z_this_sumEnd_8 z_this_testEnd_9 z_this_size_10 z_this_clauses_11 z_this_values_12 ++ cTp ad_this_tape cy_this_tape z_this_tape_bytes z_this_tape_length z_this_tape_kind_24 z_this_tape_sign_25 z_this_tape_fault_15 z_this_tape_start_26 z_this_tape_stop_27) S hK hP hD hS hA (c9_advance hc28) [3] [4, 5] [0, 1, 2, 3] [0, 1, 2, 3, 4, 5] rfl rfl rfl (by decide) (by decide) (by decide) rfl (by decide) (gdV mw_23_12 mw_10_1 mw_10_2 mw_1_17 mw_10_3) rfl rfl hd_f9_advance ⟨Nat.le_of_ble_eq_true rfl, Nat.le_of_ble_eq_true rfl⟩ (ci := 9) (q0 := 0) rfl rfl rfl hl.1 rfl (Nat.le_of_ble_eq_true rfl) dX6_readText_73 (fun H locs hP hD hS => ?_)
          refine lv_aload_n hx hb dX6_readText_76 rfl (lv_at hl 0 rfl) ?_
          obtain ⟨r_29, z_this_code_30, z_this_size_31, z_this_values_32, z_this_tape_kind_33, z_this_tape_sign_34, z_this_tape_fault_35, z_this_tape_start_36, z_this_tape_stop_37, hc38, h⟩ := bnd9_el h
          refine mfV_iE (As := []) (rest := []) (wc := cRR ad_this cy_this (ad_this_tape 0) z_this_code_7 z_this_sumEnd_8 z_this_testEnd_9 z_this_size_10 z_this_clauses_11 z_this_values_12 ++ cTp ad_this_tape cy_this_tape z_this_tape_bytes z_this_tape_length z_this_tape_kind_24 z_this_tape_sign_25 z_this_tape_fault_15 z_this_tape_start_26 z_this_tape_stop_27) (wr := []) (wf := cRR ad_this cy_this (ad_this_tape 0) z_this_code_30 z_this_sumEnd_8 z_this_testEnd_9 z_this_size_31 z_this_clauses_11 z_this_values_32 ++ cTp ad_this_tape cy_this_tape z_this_tape_bytes z_this_tape_length z_this_tape_kind_33 z_this_tape_sign_34 z_this_tape_fault_35 z_this_tape_start_36 z_this_tape_stop_37) S hK hP hD hS hA hE (c6_readSum hc38) [0, 1, 2, 3] [0, 1, 2, 3, 4, 5] [] [0, 1, 2, 3, 4, 5] rfl rfl rfl (by decide) (by decide) (by decide) rfl (by decide) (gdV mw_23_13 mw_23_14 mw_23_15 mw_2_1 mw_23_16) rfl rfl hd_f6_readSum ⟨Nat.le_of_ble_eq_true rfl, Nat.le_of_ble_eq_true rfl⟩ (ci := 6) (q0 := 0) rfl rfl rfl hl.1 rfl (Nat.le_of_ble_eq_true rfl) dX6_readText_77 (fun H locs hP hD hS => ?_)
          refine lv_if_ne (tgt := 85) hx hb dX6_readText_80 rfl (fun c39 => ?_) (fun c39 => ?_)
          · replace h := ite_f c39 h
            refine lv_aload_n hx hb dX6_readText_85 rfl (lv_at hl 0 rfl) ?_
            refine va_get (ci := 6) (v := .ref (ad_this 2)) (C := RX6) (T := TX6) (N := 7) hx hb hts inlX6 hown hK hP 0 rfl rfl 2 (by decide) (hts _ mw_4_12) (fun _ h9 => h9) rfl dX6_readText_86 ?_
            refine lv_aload_n hx hb dX6_readText_89 rfl (lv_at hl 0 rfl) ?_
            refine va_get (ci := 6) (v := .int z_this_clauses_11) (C := RX6) (T := TX6) (N := 7) hx hb hts inlX6 hown hK hP 0 rfl rfl 5 (by decide) (hts _ mw_23_2) (fun _ h9 => h9) rfl dX6_readText_90 ?_
            refine lv_aload_n hx hb dX6_readText_93 rfl (lv_at hl 0 rfl) ?_
            refine va_get (ci := 6) (v := .int z_this_size_31) (C := RX6) (T := TX6) (N := 7) hx hb hts inlX6 hown hK hP 0 rfl rfl 4 (by decide) (hts _ mw_23_1) (fun _ h9 => h9) rfl dX6_readText_94 ?_
            obtain ⟨b40, h⟩ := bd_el h
            refine as_i (f := z_this_sumEnd_8) hx hb hK hP hD hS 2 1 rfl rfl b40 dX6_readText_97 (fun z_this_sumEnd_41 H locs ez_this_sumEnd_41 hP hD hS => ?_)
            replace h := lt_ex ez_this_sumEnd_41 h
            replace hP : va_P D vwCl (cRR ad_this cy_this (ad_this_tape 0) z_this_code_30 z_this_sumEnd_41 z_this_testEnd_9 z_this_size_31 z_this_clauses_11 z_this_values_32 ++ cTp ad_this_tape cy_this_tape z_this_tape_bytes z_this_tape_length z_this_tape_kind_33 z_this_tape_sign_34 z_this_tape_fault_35 z_this_tape_start_36 z_this_tape_stop_37) H := hP
            replace hD : va_D A (cRR ad_this cy_this (ad_this_tape 0) z_this_code_30 z_this_sumEnd_41 z_this_testEnd_9 z_this_size_31 z_this_clauses_11 z_this_values_32 ++ cTp ad_this_tape cy_this_tape z_this_tape_bytes z_this_tape_length z_this_tape_kind_33 z_this_tape_sign_34 z_this_tape_fault_35 z_this_tape_start_36 z_this_tape_stop_37) := hD
            refine lv_aload_n hx hb dX6_readText_98 rfl (lv_at hl 0 rfl) ?_
            refine va_get (ci := 6) (v := .ref (ad_this_tape 0)) (C := RX6) (T := TX6) (N := 7) hx hb hts inlX6 hown hK hP 0 rfl rfl 0 (by decide) (hts _ mw_4_14) (fun _ h9 => h9) rfl dX6_readText_99 ?_
            refine va_ldcS hx hb hown hE.2.2.2.2.2.1 dX6_readText_102 ?_
            obtain ⟨r_42, hc43, h⟩ := bnd1_el h
            refine mfV_iE (As := [.ref (adK 2)]) (rest := []) (wc := cTp ad_this_tape cy_this_tape z_this_tape_bytes z_this_tape_length z_this_tape_kind_33 z_this_tape_sign_34 z_this_tape_fault_35 z_this_tape_start_36 z_this_tape_stop_37) (wr := cRR ad_this cy_this (ad_this_tape 0) z_this_code_30 z_this_sumEnd_41 z_this_testEnd_9 z_this_size_31 z_this_clauses_11 z_this_values_32) (wf := cRR ad_this cy_this (ad_this_tape 0) z_this_code_30 z_this_sumEnd_41 z_this_testEnd_9 z_this_size_31 z_this_clauses_11 z_this_values_32 ++ cTp ad_this_tape cy_this_tape z_this_tape_bytes z_this_tape_length z_this_tape_kind_33 z_this_tape_sign_34 z_this_tape_fault_35 z_this_tape_start_36 z_this_tape_stop_37) S hK hP hD hS hA hE (c9_isAtWord hc43 (by decide)) [3] [4, 5] [0, 1, 2, 3] [0, 1, 2, 3, 4, 5] rfl rfl rfl (by decide) (by decide) (by decide) rfl (by decide) (gdV mw_23_6 mw_23_7 mw_23_8 mw_1_17 mw_23_9) rfl rfl hd_f9_isAtWord ⟨Nat.le_of_ble_eq_true rfl, Nat.le_of_ble_eq_true rfl⟩ (ci := 9) (q0 := 0) rfl rfl rfl hl.1 rfl (Nat.le_of_ble_eq_true rfl) dX6_readText_104 (fun H locs hP hD hS => ?_)
            refine lv_if_eq (tgt := 127) hx hb dX6_readText_107 rfl (fun c44 => ?_) (fun c44 => ?_)
            · replace h := ite_t c44 h
              exact J127 z_this_code_30 z_this_sumEnd_41 z_this_testEnd_9 z_this_size_31 z_this_clauses_11 z_this_values_32 z_this_tape_kind_33 z_this_tape_sign_34 z_this_tape_fault_35 z_this_tape_start_36 z_this_tape_stop_37 v1_18 H locs ls h hP hD hS (lv_sub hl [0, 1] rfl)
            · replace h := ite_f c44 h
              refine lv_aload_n hx hb dX6_readText_110 rfl (lv_at hl 0 rfl) ?_
              refine va_get (ci := 6) (v := .ref (ad_this_tape 0)) (C := RX6) (T := TX6) (N := 7) hx hb hts inlX6 hown hK hP 0 rfl rfl 0 (by decide) (hts _ mw_4_14) (fun _ h9 => h9) rfl dX6_readText_111 ?_
              obtain ⟨z_this_tape_kind_57, z_this_tape_sign_58, z_this_tape_start_59, z_this_tape_stop_60, hc61, h⟩ := bnd4_el h
              refine mfV_v (As := []) (rest := []) (wc := cTp ad_this_tape cy_this_tape z_this_tape_bytes z_this_tape_length z_this_tape_kind_33 z_this_tape_sign_34 z_this_tape_fault_35 z_this_tape_start_36 z_this_tape_stop_37) (wr := cRR ad_this cy_this (ad_this_tape 0) z_this_code_30 z_this_sumEnd_41 z_this_testEnd_9 z_this_size_31 z_this_clauses_11 z_this_values_32) (wf := cRR ad_this cy_this (ad_this_tape 0) z_this_code_30 z_this_sumEnd_41 z_this_testEnd_9 z_this_size_31 z_this_clauses_11 z_this_values_32 ++ cTp ad_this_tape cy_this_tape z_this_tape_bytes z_this_tape_length z_this_tape_kind_57 z_this_tape_sign_58 z_this_tape_fault_35 z_this_tape_start_59 z_this_tape_stop_60) S hK hP hD hS hA (c9_advance hc61) [3] [4, 5] [0, 1, 2, 3] [0, 1, 2, 3, 4, 5] rfl rfl rfl (by decide) (by decide) (by decide) rfl (by decide) (gdV mw_23_12 mw_10_1 mw_10_2 mw_1_17 mw_10_3) rfl rfl hd_f9_advance ⟨Nat.le_of_ble_eq_true rfl, Nat.le_of_ble_eq_true rfl⟩ (ci := 9) (q0 := 0) rfl rfl rfl hl.1 rfl (Nat.le_of_ble_eq_true rfl) dX6_readText_114 (fun H locs hP hD hS => ?_)
              refine lv_aload_n hx hb dX6_readText_117 rfl (lv_at hl 0 rfl) ?_
              refine lv_iconst (v := (0 : Int32)) hx hb dX6_readText_118 (by decide) ?_
              obtain ⟨r_62, z_this_code_63, z_this_size_64, z_this_values_65, z_this_tape_kind_66, z_this_tape_sign_67, z_this_tape_fault_68, z_this_tape_start_69, z_this_tape_stop_70, hc71, h⟩ := bnd9_el h
              refine mfV_iE (As := [.int (0 : Int32)]) (rest := []) (wc := cRR ad_this cy_this (ad_this_tape 0) z_this_code_30 z_this_sumEnd_41 z_this_testEnd_9 z_this_size_31 z_this_clauses_11 z_this_values_32 ++ cTp ad_this_tape cy_this_tape z_this_tape_bytes z_this_tape_length z_this_tape_kind_57 z_this_tape_sign_58 z_this_tape_fault_35 z_this_tape_start_59 z_this_tape_stop_60) (wr := []) (wf := cRR ad_this cy_this (ad_this_tape 0) z_this_code_63 z_this_sumEnd_41 z_this_testEnd_9 z_this_size_64 z_this_clauses_11 z_this_values_65 ++ cTp ad_this_tape cy_this_tape z_this_tape_bytes z_this_tape_length z_this_tape_kind_66 z_this_tape_sign_67 z_this_tape_fault_68 z_this_tape_start_69 z_this_tape_stop_70) S hK hP hD hS hA hE (c6_readTest 12 (c6_readFact 12) hc71) [0, 1, 2, 3] [0, 1, 2, 3, 4, 5] [] [0, 1, 2, 3, 4, 5] rfl rfl rfl (by decide) (by decide) (by decide) rfl (by decide) (gdV mw_24_9 mw_24_10 mw_24_11 mw_2_1 mw_24_12) rfl rfl hd_f6_readTest ⟨Nat.le_of_ble_eq_true rfl, Nat.le_of_ble_eq_true rfl⟩ (ci := 6) (q0 := 0) rfl rfl rfl hl.1 rfl (Nat.le_of_ble_eq_true rfl) dX6_readText_119 (fun H locs hP hD hS => ?_)
              refine lv_if_ne (tgt := 127) hx hb dX6_readText_122 rfl (fun c72 => ?_) (fun c72 => ?_)
              · replace h := ite_f c72 h
                exact J127 z_this_code_63 z_this_sumEnd_41 z_this_testEnd_9 z_this_size_64 z_this_clauses_11 z_this_values_65 z_this_tape_kind_66 z_this_tape_sign_67 z_this_tape_fault_68 z_this_tape_start_69 z_this_tape_stop_70 v1_18 H locs ls h hP hD hS (lv_sub hl [0, 1] rfl)
              · replace h := ite_t c72 h
                refine lv_iconst (v := (0 : Int32)) hx hb dX6_readText_125 (by decide) ?_
                cases h
                obtain ⟨e_0, e_1, e_2, e_3, e_4, e_5, e_6, e_7, e_8, e_9, e_10, e_11⟩ := jnj12 (kr _ rfl)
                subst e_0
                subst e_1
                subst e_2
                subst e_3
                subst e_4
                subst e_5
                subst e_6
                subst e_7
                subst e_8
                subst e_9
                subst e_10
                subst e_11
                exact hret _ _ _ _ _ hP hD hS rfl nz0 dX6_readText_126
          · replace h := ite_t c39 h
            refine lv_iconst (v := (0 : Int32)) hx hb dX6_readText_83 (by decide) ?_
            cases h
            obtain ⟨e_0, e_1, e_2, e_3, e_4, e_5, e_6, e_7, e_8, e_9, e_10, e_11⟩ := jnj12 (kr _ rfl)
            subst e_0
            subst e_1
            subst e_2
            subst e_3
            subst e_4
            subst e_5
            subst e_6
            subst e_7
            subst e_8
            subst e_9
            subst e_10
            subst e_11
            exact hret _ _ _ _ _ hP hD hS rfl nz0 dX6_readText_84
        · replace h := ite_f c23 h
          refine lv_aload_n hx hb dX6_readText_60 rfl (lv_at hl 0 rfl) ?_
          refine va_get (ci := 6) (v := .ref (ad_this_tape 0)) (C := RX6) (T := TX6) (N := 7) hx hb hts inlX6 hown hK hP 0 rfl rfl 0 (by decide) (hts _ mw_4_14) (fun _ h9 => h9) rfl dX6_readText_61 ?_
          refine lv_iconst (v := (4 : Int32)) hx hb dX6_readText_64 (by decide) ?_
          obtain ⟨r_73, z_this_tape_fault_74, hc75, h⟩ := bnd2_el h
          refine mfV_i (As := [.int (4 : Int32)]) (rest := []) (wc := cTp ad_this_tape cy_this_tape z_this_tape_bytes z_this_tape_length z_this_tape_kind_13 z_this_tape_sign_14 z_this_tape_fault_15 z_this_tape_start_16 z_this_tape_stop_17) (wr := cRR ad_this cy_this (ad_this_tape 0) z_this_code_7 z_this_sumEnd_8 z_this_testEnd_9 z_this_size_10 z_this_clauses_11 z_this_values_12) (wf := cRR ad_this cy_this (ad_this_tape 0) z_this_code_7 z_this_sumEnd_8 z_this_testEnd_9 z_this_size_10 z_this_clauses_11 z_this_values_12 ++ cTp ad_this_tape cy_this_tape z_this_tape_bytes z_this_tape_length z_this_tape_kind_13 z_this_tape_sign_14 z_this_tape_fault_74 z_this_tape_start_16 z_this_tape_stop_17) S hK hP hD hS hA (c9_refuse hc75) [3] [4, 5] [0, 1, 2, 3] [0, 1, 2, 3, 4, 5] rfl rfl rfl (by decide) (by decide) (by decide) rfl (by decide) (gdV mw_23_11 mw_12_18 mw_12_19 mw_1_17 mw_12_20) rfl rfl hd_f9_refuse ⟨Nat.le_of_ble_eq_true rfl, Nat.le_of_ble_eq_true rfl⟩ (ci := 9) (q0 := 0) rfl rfl rfl hl.1 rfl (Nat.le_of_ble_eq_true rfl) dX6_readText_65 (fun H locs hP hD hS => ?_)
          obtain ⟨hz, h⟩ := gd_el h
          cases h
          obtain ⟨e_0, e_1, e_2, e_3, e_4, e_5, e_6, e_7, e_8, e_9, e_10, e_11⟩ := jnj12 (kr _ rfl)
          subst e_0
          subst e_1
          subst e_2
          subst e_3
          subst e_4
          subst e_5
          subst e_6
          subst e_7
          subst e_8
          subst e_9
          subst e_10
          subst e_11
          exact hret _ _ _ _ _ hP hD hS rfl (nzg hz) dX6_readText_68
      · replace h := ite_t c22 h
        refine lv_aload_n hx hb dX6_readText_42 rfl (lv_at hl 0 rfl) ?_
        refine va_get (ci := 6) (v := .ref (ad_this_tape 0)) (C := RX6) (T := TX6) (N := 7) hx hb hts inlX6 hown hK hP 0 rfl rfl 0 (by decide) (hts _ mw_4_14) (fun _ h9 => h9) rfl dX6_readText_43 ?_
        refine lv_iconst (v := (0 : Int32)) hx hb dX6_readText_46 (by decide) ?_
        obtain ⟨r_76, z_this_tape_fault_77, hc78, h⟩ := bnd2_el h
        refine mfV_i (As := [.int (0 : Int32)]) (rest := []) (wc := cTp ad_this_tape cy_this_tape z_this_tape_bytes z_this_tape_length z_this_tape_kind_13 z_this_tape_sign_14 z_this_tape_fault_15 z_this_tape_start_16 z_this_tape_stop_17) (wr := cRR ad_this cy_this (ad_this_tape 0) z_this_code_7 z_this_sumEnd_8 z_this_testEnd_9 z_this_size_10 z_this_clauses_11 z_this_values_12) (wf := cRR ad_this cy_this (ad_this_tape 0) z_this_code_7 z_this_sumEnd_8 z_this_testEnd_9 z_this_size_10 z_this_clauses_11 z_this_values_12 ++ cTp ad_this_tape cy_this_tape z_this_tape_bytes z_this_tape_length z_this_tape_kind_13 z_this_tape_sign_14 z_this_tape_fault_77 z_this_tape_start_16 z_this_tape_stop_17) S hK hP hD hS hA (c9_refuse hc78) [3] [4, 5] [0, 1, 2, 3] [0, 1, 2, 3, 4, 5] rfl rfl rfl (by decide) (by decide) (by decide) rfl (by decide) (gdV mw_23_11 mw_12_18 mw_12_19 mw_1_17 mw_12_20) rfl rfl hd_f9_refuse ⟨Nat.le_of_ble_eq_true rfl, Nat.le_of_ble_eq_true rfl⟩ (ci := 9) (q0 := 0) rfl rfl rfl hl.1 rfl (Nat.le_of_ble_eq_true rfl) dX6_readText_47 (fun H locs hP hD hS => ?_)
        obtain ⟨hz, h⟩ := gd_el h
        cases h
        obtain ⟨e_0, e_1, e_2, e_3, e_4, e_5, e_6, e_7, e_8, e_9, e_10, e_11⟩ := jnj12 (kr _ rfl)
        subst e_0
        subst e_1
        subst e_2
        subst e_3
        subst e_4
        subst e_5
        subst e_6
        subst e_7
        subst e_8
        subst e_9
        subst e_10
        subst e_11
        exact hret _ _ _ _ _ hP hD hS rfl (nzg hz) dX6_readText_50
  have L24 : ∀ (n : Nat) (z_this_code_7 : Nat → Int32) (z_this_sumEnd_8 : Nat → Int32) (z_this_testEnd_9 : Nat → Int32) (z_this_size_10 : Int32) (z_this_clauses_11 : Int32) (z_this_values_12 : Int32) (z_this_tape_kind_13 : Int32) (z_this_tape_sign_14 : Int32) (z_this_tape_fault_15 : Int32) (z_this_tape_start_16 : Int32) (z_this_tape_stop_17 : Int32) (v1_18 : Int32) (e24 : (Int32 × (Nat → Int32) × (Nat → Int32) × (Nat → Int32) × Int32 × Int32 × Int32 × Int32 × Int32 × Int32 × Int32 × Int32) ⊕ ((Nat → Int32) × (Nat → Int32) × (Nat → Int32) × Int32 × Int32 × Int32 × Int32 × Int32 × Int32 × Int32 × Int32)) (H : Heap) (locs : List Loc) (ls : Array Slot), iter (fun (z : (Nat → Int32) × (Nat → Int32) × (Nat → Int32) × Int32 × Int32 × Int32 × Int32 × Int32 × Int32 × Int32 × Int32 × Int32) => f6_readText_B24 z_this_tape_bytes z_this_tape_length z.1 z.2.1 z.2.2.1 z.2.2.2.1 z.2.2.2.2.1 z.2.2.2.2.2.1 z.2.2.2.2.2.2.1 z.2.2.2.2.2.2.2.1 z.2.2.2.2.2.2.2.2.1 z.2.2.2.2.2.2.2.2.2.1 z.2.2.2.2.2.2.2.2.2.2.1 z.2.2.2.2.2.2.2.2.2.2.2) n (z_this_code_7, z_this_sumEnd_8, z_this_testEnd_9, z_this_size_10, z_this_clauses_11, z_this_values_12, z_this_tape_kind_13, z_this_tape_sign_14, z_this_tape_fault_15, z_this_tape_start_16, z_this_tape_stop_17, v1_18) = some e24 → va_P D vwCl (cRR ad_this cy_this (ad_this_tape 0) z_this_code_7 z_this_sumEnd_8 z_this_testEnd_9 z_this_size_10 z_this_clauses_11 z_this_values_12 ++ cTp ad_this_tape cy_this_tape z_this_tape_bytes z_this_tape_length z_this_tape_kind_13 z_this_tape_sign_14 z_this_tape_fault_15 z_this_tape_start_16 z_this_tape_stop_17) H → va_D A (cRR ad_this cy_this (ad_this_tape 0) z_this_code_7 z_this_sumEnd_8 z_this_testEnd_9 z_this_size_10 z_this_clauses_11 z_this_values_12 ++ cTp ad_this_tape cy_this_tape z_this_tape_bytes z_this_tape_length z_this_tape_kind_13 z_this_tape_sign_14 z_this_tape_fault_15 z_this_tape_start_16 z_this_tape_stop_17) → va_S A s.heap H locs → lv_has ls 2 [(0, .ref (ad_this 0)), (1, .int v1_18)] → (∀ (z_this_code_95 : Nat → Int32) (z_this_sumEnd_96 : Nat → Int32) (z_this_testEnd_97 : Nat → Int32) (z_this_size_98 : Int32) (z_this_clauses_99 : Int32) (z_this_values_100 : Int32) (z_this_tape_kind_101 : Int32) (z_this_tape_sign_102 : Int32) (z_this_tape_fault_103 : Int32) (z_this_tape_start_104 : Int32) (z_this_tape_stop_105 : Int32), e24 = (.inr (z_this_code_95, z_this_sumEnd_96, z_this_testEnd_97, z_this_size_98, z_this_clauses_99, z_this_values_100, z_this_tape_kind_101, z_this_tape_sign_102, z_this_tape_fault_103, z_this_tape_start_104, z_this_tape_stop_105)) → ∀ (H : Heap) (locs : List Loc) (ls : Array Slot), va_P D vwCl (cRR ad_this cy_this (ad_this_tape 0) z_this_code_95 z_this_sumEnd_96 z_this_testEnd_97 z_this_size_98 z_this_clauses_99 z_this_values_100 ++ cTp ad_this_tape cy_this_tape z_this_tape_bytes z_this_tape_length z_this_tape_kind_101 z_this_tape_sign_102 z_this_tape_fault_103 z_this_tape_start_104 z_this_tape_stop_105) H → va_D A (cRR ad_this cy_this (ad_this_tape 0) z_this_code_95 z_this_sumEnd_96 z_this_testEnd_97 z_this_size_98 z_this_clauses_99 z_this_values_100 ++ cTp ad_this_tape cy_this_tape z_this_tape_bytes z_this_tape_length z_this_tape_kind_101 z_this_tape_sign_102 z_this_tape_fault_103 z_this_tape_start_104 z_this_tape_stop_105) → va_S A s.heap H locs → lv_has ls 2 [] → W p l e rm_f6_readText s m args below meth c H locs 0 0 Q (F0 m 196 ls [])) → (∀ q, e24 = .inl q → q = (o_ret, o_this_code, o_this_sumEnd, o_this_testEnd, o_this_size, o_this_clauses, o_this_values, o_this_tape_kind, o_this_tape_sign, o_this_tape_fault, o_this_tape_start, o_this_tape_stop)) → W p l e rm_f6_readText s m args below meth c H locs 0 0 Q (F0 m 24 ls []) := by
    intro n
    induction n with
    | zero => intro z_this_code_7 z_this_sumEnd_8 z_this_testEnd_9 z_this_size_10 z_this_clauses_11 z_this_values_12 z_this_tape_kind_13 z_this_tape_sign_14 z_this_tape_fault_15 z_this_tape_start_16 z_this_tape_stop_17 v1_18 e24 H locs ls h; exact (iter_0 h).elim
    | succ n ih =>
      intro z_this_code_7 z_this_sumEnd_8 z_this_testEnd_9 z_this_size_10 z_this_clauses_11 z_this_values_12 z_this_tape_kind_13 z_this_tape_sign_14 z_this_tape_fault_15 z_this_tape_start_16 z_this_tape_stop_17 v1_18 e24 H locs ls h hP hD hS hl kx kr
      obtain ⟨r, hb9, hor⟩ := iter_el h
      refine B24 z_this_code_7 z_this_sumEnd_8 z_this_testEnd_9 z_this_size_10 z_this_clauses_11 z_this_values_12 z_this_tape_kind_13 z_this_tape_sign_14 z_this_tape_fault_15 z_this_tape_start_16 z_this_tape_stop_17 v1_18 r H locs ls hb9 hP hD hS hl ?_ ?_ ?_
      · intro z_this_code_7' z_this_sumEnd_8' z_this_testEnd_9' z_this_size_10' z_this_clauses_11' z_this_values_12' z_this_tape_kind_13' z_this_tape_sign_14' z_this_tape_fault_15' z_this_tape_start_16' z_this_tape_stop_17' v1_18' er H locs ls hP hD hS hl
        subst er
        rcases hor with ⟨s', e', hi⟩ | e'
        · cases e'; exact ih _ _ _ _ _ _ _ _ _ _ _ _ _ H locs ls hi hP hD hS hl kx kr
        · cases e'
      · intro z_this_code_95' z_this_sumEnd_96' z_this_testEnd_97' z_this_size_98' z_this_clauses_99' z_this_values_100' z_this_tape_kind_101' z_this_tape_sign_102' z_this_tape_fault_103' z_this_tape_start_104' z_this_tape_stop_105' er H locs ls hP hD hS hl
        subst er
        rcases hor with ⟨s', e', hi⟩ | e'
        · cases e'
        · cases e'; exact kx _ _ _ _ _ _ _ _ _ _ _ rfl H locs ls hP hD hS hl
      · intro q er
        subst er
        rcases hor with ⟨s', e', hi⟩ | e'
        · cases e'
        · cases e'; exact kr _ rfl
  rcases bndS11_el h with ⟨q24, hi24, h⟩ | ⟨z_this_code_95, z_this_sumEnd_96, z_this_testEnd_97, z_this_size_98, z_this_clauses_99, z_this_values_100, z_this_tape_kind_101, z_this_tape_sign_102, z_this_tape_fault_103, z_this_tape_start_104, z_this_tape_stop_105, hi24, h⟩
  · refine L24 FUEL z_this_code z_this_sumEnd z_this_testEnd (0 : Int32) (0 : Int32) (0 : Int32) z_this_tape_kind_1 z_this_tape_sign_2 z_this_tape_fault_3 z_this_tape_start_4 z_this_tape_stop_5 (0 : Int32) _ H locs ls hi24 hP hD hS (lv_sub hl [1, 0] rfl) ?_ ?_
    · intro z_this_code_95' z_this_sumEnd_96' z_this_testEnd_97' z_this_size_98' z_this_clauses_99' z_this_values_100' z_this_tape_kind_101' z_this_tape_sign_102' z_this_tape_fault_103' z_this_tape_start_104' z_this_tape_stop_105' er; cases er
    · intro q er; cases er; exact Option.some.inj h
  refine L24 FUEL z_this_code z_this_sumEnd z_this_testEnd (0 : Int32) (0 : Int32) (0 : Int32) z_this_tape_kind_1 z_this_tape_sign_2 z_this_tape_fault_3 z_this_tape_start_4 z_this_tape_stop_5 (0 : Int32) _ H locs ls hi24 hP hD hS (lv_sub hl [1, 0] rfl) ?_ (fun q er => by cases er)
  intro z_this_code_95' z_this_sumEnd_96' z_this_testEnd_97' z_this_size_98' z_this_clauses_99' z_this_values_100' z_this_tape_kind_101' z_this_tape_sign_102' z_this_tape_fault_103' z_this_tape_start_104' z_this_tape_stop_105' er H locs ls hP hD hS hl
  cases er
  refine lv_iconst (v := (0 : Int32)) hx hb dX6_readText_196 (by decide) ?_
  obtain ⟨e_0, e_1, e_2, e_3, e_4, e_5, e_6, e_7, e_8, e_9, e_10, e_11⟩ := inj12 h
  subst e_0
  subst e_1
  subst e_2
  subst e_3
  subst e_4
  subst e_5
  subst e_6
  subst e_7
  subst e_8
  subst e_9
  subst e_10
  subst e_11
  exact hret _ _ _ _ _ hP hD hS rfl nz0 dX6_readText_197

