def cM (h : Nat → Nat) (cy : Nat → ClassId) (z_tape : Nat → Int32) (z_taped : Int32) (z_rules : Int32) (z_sign : Nat → Int32) (z_length : Nat → Int32) (z_clause : Nat → Int32) (z_clauses : Nat → Int32) (z_read : Nat → Int32) (z_next : Int32) (z_wrong : Int32) (z_number : Int32) (z_text : Int32) (z_made : Int32) (z_deep : Int32) (z_lines : Int32) (z_open : Nat → Int32) (z_opened : Int32) (z_stack : Nat → Int64) (z_top : Int32) (z_word : Nat → Int64) (z_said : Nat → Int32) (z_force : Int32) (z_x : Int32) (z_will : Nat → Int32) (z_moved : Nat → Int32) (z_broke : Int32) (z_wasSaid : Nat → Int32) (z_undone : Int32) (z_kept : Nat → Int32) (z_breakHour : Int32) (z_far : Nat → Int32) (z_queue : Nat → Int32) (z_queued : Int32) (z_isOnWay : Nat → Int32) (z_movePerson : Int32) (z_moveKind : Int32) (z_isFit : Nat → Int32) (z_standThen : Nat → Int32) (z_drawX : Int64) (z_images : Nat → Int32) (z_imageForce : Nat → Int32) (z_imageX : Nat → Int32) (z_isMade : Nat → Int32) : va_W := [(h 0, .inr (12, [.ref (h 1), .int z_taped, .int z_rules, .ref (h 2), .ref (h 3), .ref (h 4), .ref (h 5), .ref (h 6), .int z_next, .int z_wrong, .int z_number, .int z_text, .int z_made, .int z_deep, .int z_lines, .ref (h 7), .int z_opened, .ref (h 8), .int z_top, .ref (h 9), .ref (h 10), .int z_force, .int z_x, .ref (h 11), .ref (h 12), .int z_broke, .ref (h 13), .int z_undone, .ref (h 14), .int z_breakHour, .ref (h 15), .ref (h 16), .int z_queued, .ref (h 17), .int z_movePerson, .int z_moveKind, .ref (h 18), .ref (h 19), .long z_drawX, .ref (h 20), .ref (h 21), .ref (h 22), .ref (h 23)])), (h 1, .inl (cy 1, 400, .inl z_tape)), (h 2, .inl (cy 2, 2400, .inl z_sign)), (h 3, .inl (cy 3, 7, .inl z_length)), (h 4, .inl (cy 4, 288, .inl z_clause)), (h 5, .inl (cy 5, 6, .inl z_clauses)), (h 6, .inl (cy 6, 79, .inl z_read)), (h 7, .inl (cy 7, 400, .inl z_open)), (h 8, .inl (cy 8, 64, .inr (.inl z_stack))), (h 9, .inl (cy 9, 13, .inr (.inl z_word))), (h 10, .inl (cy 10, 110, .inl z_said)), (h 11, .inl (cy 11, 4, .inl z_will)), (h 12, .inl (cy 12, 4, .inl z_moved)), (h 13, .inl (cy 13, 1240, .inl z_wasSaid)), (h 14, .inl (cy 14, 62, .inl z_kept)), (h 15, .inl (cy 15, 6561, .inl z_far)), (h 16, .inl (cy 16, 6561, .inl z_queue)), (h 17, .inl (cy 17, 6561, .inl z_isOnWay)), (h 18, .inl (cy 18, 7, .inl z_isFit)), (h 19, .inl (cy 19, 63, .inl z_standThen)), (h 20, .inl (cy 20, 440, .inl z_images)), (h 21, .inl (cy 21, 4, .inl z_imageForce)), (h 22, .inl (cy 22, 4, .inl z_imageX)), (h 23, .inl (cy 23, 4, .inl z_isMade))]
def tM (cy : Nat → ClassId) : List (ClassId × FieldType) := [(cy 1, .byte), (cy 2, .int), (cy 3, .int), (cy 4, .int), (cy 5, .int), (cy 6, .int), (cy 7, .int), (cy 8, .long), (cy 9, .long), (cy 10, .int), (cy 11, .int), (cy 12, .int), (cy 13, .int), (cy 14, .int), (cy 15, .int), (cy 16, .int), (cy 17, .boolean), (cy 18, .boolean), (cy 19, .int), (cy 20, .int), (cy 21, .int), (cy 22, .int), (cy 23, .boolean)]

/-! LadderLandModel.in(JJJ)Z -/
def f12_in (a1 : Int64) (a2 : Int64) (a3 : Int64) : Option (Int32) :=
if (lg_cmp a1 a2) < 0 then (some (0 : Int32)) else (if 0 < (lg_cmp a1 a3) then (some (0 : Int32)) else (some (1 : Int32)))

abbrev rm_f12_in : Room := { frames := 0, cells := 0, slots := 0, locals := 0 }
theorem hd_f12_in : yX12_in.cls ≠ "java/lang/invoke/MethodHandle" ∧ yX12_in.cls ≠ "java/lang/invoke/VarHandle" ∧ (parseMethodDescriptor yX12_in.desc).map (fun d => d.parameters.length) = some 3 := by decide +kernel
set_option maxHeartbeats 4000000 in
set_option maxRecDepth 100000 in
theorem c12_in {l : Launch} {D : va_G}  {a1 : Int64} {a2 : Int64} {a3 : Int64} {o_ret : Int32} (h : f12_in a1 a2 a3 = some o_ret) : MetI l yX12_in cX12_in 6 (some .boolean) rm_f12_in D ([]) ([]) ([]) [.long a1, .long a2, .long a3] o_ret := by
  refine metI_of (own := RX12) rfl (by decide) (Nat.le_of_ble_eq_true rfl) ?_
  intro p e s m args below meth c A Q ls S hK hA hP hD hS hl hret
  obtain ⟨hx, hb, hml, hown, hts⟩ := id S
  replace hl : lv_has ls 6 [(0, .long a1), (2, .long a2), (4, .long a3)] := hl
  generalize hH : s.heap = H at hP ⊢
  replace hS : va_S A s.heap H [] := by rw [← hH]; exact hS
  generalize hlo : ([] : List Loc) = locs at hS ⊢
  unfold f12_in at h
  refine lv_lload_n hx hb dX12_in_0 rfl (lv_at hl 0 rfl) ?_
  refine lv_lload_n hx hb dX12_in_1 rfl (lv_at hl 1 rfl) ?_
  refine W.lcmp hx hb dX12_in_2 ?_
  refine lv_if_lt (tgt := 17) hx hb dX12_in_3 rfl (fun c1 => ?_) (fun c1 => ?_)
  · replace h := ite_t c1 h
    refine lv_iconst (v := (0 : Int32)) hx hb dX12_in_17 (by decide) ?_
    cases h
    exact hret _ _ _ _ _ hP hD hS rfl nz0 dX12_in_18
  · replace h := ite_f c1 h
    refine lv_lload_n hx hb dX12_in_6 rfl (lv_at hl 0 rfl) ?_
    refine lv_lload hx hb dX12_in_7 (lv_at hl 2 rfl) ?_
    refine W.lcmp hx hb dX12_in_9 ?_
    refine lv_if_gt (tgt := 17) hx hb dX12_in_10 rfl (fun c2 => ?_) (fun c2 => ?_)
    · replace h := ite_t c2 h
      refine lv_iconst (v := (0 : Int32)) hx hb dX12_in_17 (by decide) ?_
      cases h
      exact hret _ _ _ _ _ hP hD hS rfl nz0 dX12_in_18
    · replace h := ite_f c2 h
      refine lv_iconst (v := (1 : Int32)) hx hb dX12_in_13 (by decide) ?_
      refine lv_goto (tgt := 18) hx hb dX12_in_14 rfl ?_
      cases h
      exact hret _ _ _ _ _ hP hD hS rfl nz1 dX12_in_18

/-! LadderLandModel.isOf(II)Z -/
def f12_isOf (a1 : Int32) (a2 : Int32) : Option (Int32) :=
if ((a1 >>> (a2 &&& 31)) &&& (1 : Int32)) = (1 : Int32) then (some (1 : Int32)) else (some (0 : Int32))

abbrev rm_f12_isOf : Room := { frames := 0, cells := 0, slots := 0, locals := 0 }
theorem hd_f12_isOf : yX12_isOf.cls ≠ "java/lang/invoke/MethodHandle" ∧ yX12_isOf.cls ≠ "java/lang/invoke/VarHandle" ∧ (parseMethodDescriptor yX12_isOf.desc).map (fun d => d.parameters.length) = some 2 := by decide +kernel
set_option maxHeartbeats 4000000 in
set_option maxRecDepth 100000 in
theorem c12_isOf {l : Launch} {D : va_G}  {a1 : Int32} {a2 : Int32} {o_ret : Int32} (h : f12_isOf a1 a2 = some o_ret) : MetI l yX12_isOf cX12_isOf 2 (some .boolean) rm_f12_isOf D ([]) ([]) ([]) [.int a1, .int a2] o_ret := by
  refine metI_of (own := RX12) rfl (by decide) (Nat.le_of_ble_eq_true rfl) ?_
  intro p e s m args below meth c A Q ls S hK hA hP hD hS hl hret
  obtain ⟨hx, hb, hml, hown, hts⟩ := id S
  replace hl : lv_has ls 2 [(0, .int a1), (1, .int a2)] := hl
  generalize hH : s.heap = H at hP ⊢
  replace hS : va_S A s.heap H [] := by rw [← hH]; exact hS
  generalize hlo : ([] : List Loc) = locs at hS ⊢
  unfold f12_isOf at h
  refine lv_iload_n hx hb dX12_isOf_0 rfl (lv_at hl 0 rfl) ?_
  refine lv_iload_n hx hb dX12_isOf_1 rfl (lv_at hl 1 rfl) ?_
  refine lv_ishr hx hb dX12_isOf_2 ?_
  refine lv_iconst (v := (1 : Int32)) hx hb dX12_isOf_3 (by decide) ?_
  refine lv_iand hx hb dX12_isOf_4 ?_
  refine lv_iconst (v := (1 : Int32)) hx hb dX12_isOf_5 (by decide) ?_
  refine lv_icmp_ne (tgt := 13) hx hb dX12_isOf_6 rfl (fun c1 => ?_) (fun c1 => ?_)
  · replace h := ite_f c1 h
    refine lv_iconst (v := (0 : Int32)) hx hb dX12_isOf_13 (by decide) ?_
    cases h
    exact hret _ _ _ _ _ hP hD hS rfl nz0 dX12_isOf_14
  · replace h := ite_t c1 h
    refine lv_iconst (v := (1 : Int32)) hx hb dX12_isOf_9 (by decide) ?_
    refine lv_goto (tgt := 14) hx hb dX12_isOf_10 rfl ?_
    cases h
    exact hret _ _ _ _ _ hP hD hS rfl nz1 dX12_isOf_14

/-! LadderLandModel.four(I)V -/
def f12_four_B3 (a1 : Int32) (z_tape_1 : Nat → Int32) (z_taped_2 : Int32) (v2_3 : Int32) : Option (((Nat → Int32) × Int32 × Int32) ⊕ ((Nat → Int32) × Int32)) :=
if v2_3 < 0 then (some (.inr (z_tape_1, z_taped_2))) else (lt ((Int8.toInt32 (Int32.toInt8 (a1 >>> (v2_3 &&& 31))))) (fun x_5 =>
if z_taped_2 < 0 ∨ 400 ≤ Int32.toNatClampNeg z_taped_2 then none else (
lt (upd z_tape_1 (Int32.toNatClampNeg z_taped_2) (vp_nar .byte x_5)) (fun z_tape_7 =>
lt ((z_taped_2 + (1 : Int32))) (fun x_8 =>
lt (v2_3 + (-8 : Int32)) (fun v2_9 =>
some (.inl (z_tape_7, x_8, v2_9))))))))

def f12_four (z_tape : Nat → Int32) (z_taped : Int32) (a1 : Int32) : Option ((Nat → Int32) × Int32) :=
bnd2 (iter (fun (z : (Nat → Int32) × Int32 × Int32) => f12_four_B3 a1 z.1 z.2.1 z.2.2) FUEL (z_tape, z_taped, (24 : Int32))) (fun z_tape_10 z_taped_11 =>
some (z_tape_10, z_taped_11))

abbrev rm_f12_four : Room := { frames := 0, cells := 0, slots := 0, locals := 0 }
theorem hd_f12_four : yX12_four.cls = RX12 ∧ yX12_four.cls ≠ "java/lang/invoke/MethodHandle" ∧ yX12_four.cls ≠ "java/lang/invoke/VarHandle" ∧ (parseMethodDescriptor yX12_four.desc).map (fun d => d.parameters.length) = some 1 := by decide +kernel
set_option maxHeartbeats 4000000 in
set_option maxRecDepth 100000 in
theorem c12_four {l : Launch} {D : va_G} {ad : Nat → Nat} {cy : Nat → ClassId} {z_tape : Nat → Int32} {z_taped : Int32} {z_rules : Int32} {z_sign : Nat → Int32} {z_length : Nat → Int32} {z_clause : Nat → Int32} {z_clauses : Nat → Int32} {z_read : Nat → Int32} {z_next : Int32} {z_wrong : Int32} {z_number : Int32} {z_text : Int32} {z_made : Int32} {z_deep : Int32} {z_lines : Int32} {z_open : Nat → Int32} {z_opened : Int32} {z_stack : Nat → Int64} {z_top : Int32} {z_word : Nat → Int64} {z_said : Nat → Int32} {z_force : Int32} {z_x : Int32} {z_will : Nat → Int32} {z_moved : Nat → Int32} {z_broke : Int32} {z_wasSaid : Nat → Int32} {z_undone : Int32} {z_kept : Nat → Int32} {z_breakHour : Int32} {z_far : Nat → Int32} {z_queue : Nat → Int32} {z_queued : Int32} {z_isOnWay : Nat → Int32} {z_movePerson : Int32} {z_moveKind : Int32} {z_isFit : Nat → Int32} {z_standThen : Nat → Int32} {z_drawX : Int64} {z_images : Nat → Int32} {z_imageForce : Nat → Int32} {z_imageX : Nat → Int32} {z_isMade : Nat → Int32} {a1 : Int32} {o_tape : Nat → Int32} {o_taped : Int32} (h : f12_four z_tape z_taped a1 = some (o_tape, o_taped)) : MetV l yX12_four cX12_four 3 none rm_f12_four D (tM cy) (cM ad cy z_tape z_taped z_rules z_sign z_length z_clause z_clauses z_read z_next z_wrong z_number z_text z_made z_deep z_lines z_open z_opened z_stack z_top z_word z_said z_force z_x z_will z_moved z_broke z_wasSaid z_undone z_kept z_breakHour z_far z_queue z_queued z_isOnWay z_movePerson z_moveKind z_isFit z_standThen z_drawX z_images z_imageForce z_imageX z_isMade) (cM ad cy o_tape o_taped z_rules z_sign z_length z_clause z_clauses z_read z_next z_wrong z_number z_text z_made z_deep z_lines z_open z_opened z_stack z_top z_word z_said z_force z_x z_will z_moved z_broke z_wasSaid z_undone z_kept z_breakHour z_far z_queue z_queued z_isOnWay z_movePerson z_moveKind z_isFit z_standThen z_drawX z_images z_imageForce z_imageX z_isMade) [.ref (ad 0), .int a1] := by
  refine metV_of (own := RX12) rfl (by decide) (Nat.le_of_ble_eq_true rfl) ?_
  intro p e s m args below meth c A Q ls S hK hA hP hD hS hl hret
  obtain ⟨hx, hb, hml, hown, hts⟩ := id S
  replace hl : lv_has ls 3 [(0, .ref (ad 0)), (1, .int a1)] := hl
  generalize hH : s.heap = H at hP ⊢
  replace hS : va_S A s.heap H [] := by rw [← hH]; exact hS
  generalize hlo : ([] : List Loc) = locs at hS ⊢
  unfold f12_four at h
  refine lv_bipush (v := (24 : Int32)) hx hb dX12_four_0 (by decide) ?_
  refine lv_istore_n (lv' := [(2, .int (24 : Int32)), (0, .ref (ad 0)), (1, .int a1)]) hx hb dX12_four_2 rfl hl (by decide) rfl (fun ls hl => ?_)
  have B3 : ∀ (z_tape_1 : Nat → Int32) (z_taped_2 : Int32) (v2_3 : Int32) (r : ((Nat → Int32) × Int32 × Int32) ⊕ ((Nat → Int32) × Int32)) (H : Heap) (locs : List Loc) (ls : Array Slot), f12_four_B3 a1 z_tape_1 z_taped_2 v2_3 = some r → va_P D vwCl (cM ad cy z_tape_1 z_taped_2 z_rules z_sign z_length z_clause z_clauses z_read z_next z_wrong z_number z_text z_made z_deep z_lines z_open z_opened z_stack z_top z_word z_said z_force z_x z_will z_moved z_broke z_wasSaid z_undone z_kept z_breakHour z_far z_queue z_queued z_isOnWay z_movePerson z_moveKind z_isFit z_standThen z_drawX z_images z_imageForce z_imageX z_isMade) H → va_D A (cM ad cy z_tape_1 z_taped_2 z_rules z_sign z_length z_clause z_clauses z_read z_next z_wrong z_number z_text z_made z_deep z_lines z_open z_opened z_stack z_top z_word z_said z_force z_x z_will z_moved z_broke z_wasSaid z_undone z_kept z_breakHour z_far z_queue z_queued z_isOnWay z_movePerson z_moveKind z_isFit z_standThen z_drawX z_images z_imageForce z_imageX z_isMade) → va_S A s.heap H locs → lv_has ls 3 [(0, .ref (ad 0)), (1, .int a1), (2, .int v2_3)] → (∀ (z_tape_1 : Nat → Int32) (z_taped_2 : Int32) (v2_3 : Int32), r = .inl (z_tape_1, z_taped_2, v2_3) → ∀ (H : Heap) (locs : List Loc) (ls : Array Slot), va_P D vwCl (cM ad cy z_tape_1 z_taped_2 z_rules z_sign z_length z_clause z_clauses z_read z_next z_wrong z_number z_text z_made z_deep z_lines z_open z_opened z_stack z_top z_word z_said z_force z_x z_will z_moved z_broke z_wasSaid z_undone z_kept z_breakHour z_far z_queue z_queued z_isOnWay z_movePerson z_moveKind z_isFit z_standThen z_drawX z_images z_imageForce z_imageX z_isMade) H → va_D A (cM ad cy z_tape_1 z_taped_2 z_rules z_sign z_length z_clause z_clauses z_read z_next z_wrong z_number z_text z_made z_deep z_lines z_open z_opened z_stack z_top z_word z_said z_force z_x z_will z_moved z_broke z_wasSaid z_undone z_kept z_breakHour z_far z_queue z_queued z_isOnWay z_movePerson z_moveKind z_isFit z_standThen z_drawX z_images z_imageForce z_imageX z_isMade) → va_S A s.heap H locs → lv_has ls 3 [(0, .ref (ad 0)), (1, .int a1), (2, .int v2_3)] → W p l e rm_f12_four s m args below meth c H locs 0 0 Q (F0 m 3 ls [])) → (∀ (z_tape_10 : Nat → Int32) (z_taped_11 : Int32), r = .inr (z_tape_10, z_taped_11) → ∀ (H : Heap) (locs : List Loc) (ls : Array Slot), va_P D vwCl (cM ad cy z_tape_10 z_taped_11 z_rules z_sign z_length z_clause z_clauses z_read z_next z_wrong z_number z_text z_made z_deep z_lines z_open z_opened z_stack z_top z_word z_said z_force z_x z_will z_moved z_broke z_wasSaid z_undone z_kept z_breakHour z_far z_queue z_queued z_isOnWay z_movePerson z_moveKind z_isFit z_standThen z_drawX z_images z_imageForce z_imageX z_isMade) H → va_D A (cM ad cy z_tape_10 z_taped_11 z_rules z_sign z_length z_clause z_clauses z_read z_next z_wrong z_number z_text z_made z_deep z_lines z_open z_opened z_stack z_top z_word z_said z_force z_x z_will z_moved z_broke z_wasSaid z_undone z_kept z_breakHour z_far z_queue z_queued z_isOnWay z_movePerson z_moveKind z_isFit z_standThen z_drawX z_images z_imageForce z_imageX z_isMade) → va_S A s.heap H locs → lv_has ls 3 [] → W p l e rm_f12_four s m args below meth c H locs 0 0 Q (F0 m 36 ls [])) → W p l e rm_f12_four s m args below meth c H locs 0 0 Q (F0 m 3 ls []) := by
    intro z_tape_1 z_taped_2 v2_3 r H locs ls h hP hD hS hl kl kx
    unfold f12_four_B3 at h
    refine lv_iload_n hx hb dX12_four_3 rfl (lv_at hl 2 rfl) ?_
    refine lv_if_lt (tgt := 36) hx hb dX12_four_4 rfl (fun c4 => ?_) (fun c4 => ?_)
    · replace h := ite_t c4 h
      cases h
      exact kx _ _ rfl H locs ls hP hD hS (lv_sub hl [] rfl)
    · replace h := ite_f c4 h
      refine lv_aload_n hx hb dX12_four_7 rfl (lv_at hl 0 rfl) ?_
      refine va_get (ci := 12) (v := .ref (ad 1)) (C := RX12) (T := TX12) (N := 43) hx hb hts inlX12 hown hK hP 0 rfl rfl 0 (by decide) (hts _ mw_7_1) (fun _ h9 => h9) rfl dX12_four_8 ?_
      refine lv_aload_n hx hb dX12_four_11 rfl (lv_at hl 0 rfl) ?_
      refine va_get (ci := 12) (v := .int z_taped_2) (C := RX12) (T := TX12) (N := 43) hx hb hts inlX12 hown hK hP 0 rfl rfl 1 (by decide) (hts _ mw_8_16) (fun _ h9 => h9) rfl dX12_four_12 ?_
      refine lv_iload_n hx hb dX12_four_15 rfl (lv_at hl 1 rfl) ?_
      refine lv_iload_n hx hb dX12_four_16 rfl (lv_at hl 2 rfl) ?_
      refine lv_ishr hx hb dX12_four_17 ?_
      refine lv_i2b hx hb dX12_four_18 rfl ?_
      refine lv_topi (fun x_5 ex_5 => ?_)
      replace h := lt_ex ex_5 h
      obtain ⟨b6, h⟩ := bd_el h
      refine as_b (f := z_tape_1) hx hb hK hP hD hS 1 0 rfl rfl b6 dX12_four_19 (fun z_tape_7 H locs ez_tape_7 hP hD hS => ?_)
      replace h := lt_ex ez_tape_7 h
      replace hP : va_P D vwCl (cM ad cy z_tape_7 z_taped_2 z_rules z_sign z_length z_clause z_clauses z_read z_next z_wrong z_number z_text z_made z_deep z_lines z_open z_opened z_stack z_top z_word z_said z_force z_x z_will z_moved z_broke z_wasSaid z_undone z_kept z_breakHour z_far z_queue z_queued z_isOnWay z_movePerson z_moveKind z_isFit z_standThen z_drawX z_images z_imageForce z_imageX z_isMade) H := hP
      replace hD : va_D A (cM ad cy z_tape_7 z_taped_2 z_rules z_sign z_length z_clause z_clauses z_read z_next z_wrong z_number z_text z_made z_deep z_lines z_open z_opened z_stack z_top z_word z_said z_force z_x z_will z_moved z_broke z_wasSaid z_undone z_kept z_breakHour z_far z_queue z_queued z_isOnWay z_movePerson z_moveKind z_isFit z_standThen z_drawX z_images z_imageForce z_imageX z_isMade) := hD
      refine lv_aload_n hx hb dX12_four_20 rfl (lv_at hl 0 rfl) ?_
      refine lv_dup hx hb dX12_four_21 rfl ?_
      refine va_get (ci := 12) (v := .int z_taped_2) (C := RX12) (T := TX12) (N := 43) hx hb hts inlX12 hown hK hP 0 rfl rfl 1 (by decide) (hts _ mw_8_16) (fun _ h9 => h9) rfl dX12_four_22 ?_
      refine lv_iconst (v := (1 : Int32)) hx hb dX12_four_25 (by decide) ?_
      refine lv_iadd hx hb dX12_four_26 ?_
      refine lv_topi (fun x_8 ex_8 => ?_)
      replace h := lt_ex ex_8 h
      refine va_put (ci := 12) (v := .int x_8) (ty := .int) (C := RX12) (T := TX12) (N := 43) hx hb hts inlX12 tyX12 tyX12_ok nmX12 hown hK hP hD hS 0 rfl rfl 1 (by decide) (hts _ mw_8_16) (fun _ h9 => h9) rfl (by decide +kernel) rfl rfl (Nat.le_of_ble_eq_true rfl) dX12_four_27 (fun H locs hP hD hS => ?_)
      replace hP : va_P D vwCl (cM ad cy z_tape_7 x_8 z_rules z_sign z_length z_clause z_clauses z_read z_next z_wrong z_number z_text z_made z_deep z_lines z_open z_opened z_stack z_top z_word z_said z_force z_x z_will z_moved z_broke z_wasSaid z_undone z_kept z_breakHour z_far z_queue z_queued z_isOnWay z_movePerson z_moveKind z_isFit z_standThen z_drawX z_images z_imageForce z_imageX z_isMade) H := hP
      replace hD : va_D A (cM ad cy z_tape_7 x_8 z_rules z_sign z_length z_clause z_clauses z_read z_next z_wrong z_number z_text z_made z_deep z_lines z_open z_opened z_stack z_top z_word z_said z_force z_x z_will z_moved z_broke z_wasSaid z_undone z_kept z_breakHour z_far z_queue z_queued z_isOnWay z_movePerson z_moveKind z_isFit z_standThen z_drawX z_images z_imageForce z_imageX z_isMade) := hD
      obtain ⟨v2_9, ev2_9, h⟩ := lt_el h
      refine lv_iinc (v := v2_9) (lv' := [(2, .int v2_9), (0, .ref (ad 0)), (1, .int a1)]) hx hb dX12_four_30 hl (k := 2) rfl (by rw [ev2_9]; rfl) (by decide) rfl (fun ls hl => ?_)
      refine lv_goto (tgt := 3) hx hb dX12_four_33 rfl ?_
      cases h
      exact kl _ _ _ rfl H locs ls hP hD hS (lv_sub hl [1, 2, 0] rfl)
  have L3 : ∀ (n : Nat) (z_tape_1 : Nat → Int32) (z_taped_2 : Int32) (v2_3 : Int32) (z_tape_10 : Nat → Int32) (z_taped_11 : Int32) (H : Heap) (locs : List Loc) (ls : Array Slot), iter (fun (z : (Nat → Int32) × Int32 × Int32) => f12_four_B3 a1 z.1 z.2.1 z.2.2) n (z_tape_1, z_taped_2, v2_3) = some (z_tape_10, z_taped_11) → va_P D vwCl (cM ad cy z_tape_1 z_taped_2 z_rules z_sign z_length z_clause z_clauses z_read z_next z_wrong z_number z_text z_made z_deep z_lines z_open z_opened z_stack z_top z_word z_said z_force z_x z_will z_moved z_broke z_wasSaid z_undone z_kept z_breakHour z_far z_queue z_queued z_isOnWay z_movePerson z_moveKind z_isFit z_standThen z_drawX z_images z_imageForce z_imageX z_isMade) H → va_D A (cM ad cy z_tape_1 z_taped_2 z_rules z_sign z_length z_clause z_clauses z_read z_next z_wrong z_number z_text z_made z_deep z_lines z_open z_opened z_stack z_top z_word z_said z_force z_x z_will z_moved z_broke z_wasSaid z_undone z_kept z_breakHour z_far z_queue z_queued z_isOnWay z_movePerson z_moveKind z_isFit z_standThen z_drawX z_images z_imageForce z_imageX z_isMade) → va_S A s.heap H locs → lv_has ls 3 [(0, .ref (ad 0)), (1, .int a1), (2, .int v2_3)] → (∀ (H : Heap) (locs : List Loc) (ls : Array Slot), va_P D vwCl (cM ad cy z_tape_10 z_taped_11 z_rules z_sign z_length z_clause z_clauses z_read z_next z_wrong z_number z_text z_made z_deep z_lines z_open z_opened z_stack z_top z_word z_said z_force z_x z_will z_moved z_broke z_wasSaid z_undone z_kept z_breakHour z_far z_queue z_queued z_isOnWay z_movePerson z_moveKind z_isFit z_standThen z_drawX z_images z_imageForce z_imageX z_isMade) H → va_D A (cM ad cy z_tape_10 z_taped_11 z_rules z_sign z_length z_clause z_clauses z_read z_next z_wrong z_number z_text z_made z_deep z_lines z_open z_opened z_stack z_top z_word z_said z_force z_x z_will z_moved z_broke z_wasSaid z_undone z_kept z_breakHour z_far z_queue z_queued z_isOnWay z_movePerson z_moveKind z_isFit z_standThen z_drawX z_images z_imageForce z_imageX z_isMade) → va_S A s.heap H locs → lv_has ls 3 [] → W p l e rm_f12_four s m args below meth c H locs 0 0 Q (F0 m 36 ls [])) → W p l e rm_f12_four s m args below meth c H locs 0 0 Q (F0 m 3 ls []) := by
    intro n
    induction n with
    | zero => intro z_tape_1 z_taped_2 v2_3 z_tape_10 z_taped_11 H locs ls h; exact (iter_0 h).elim
    | succ n ih =>
      intro z_tape_1 z_taped_2 v2_3 z_tape_10 z_taped_11 H locs ls h hP hD hS hl kx
      obtain ⟨r, hb9, hor⟩ := iter_el h
      refine B3 z_tape_1 z_taped_2 v2_3 r H locs ls hb9 hP hD hS hl ?_ ?_
      · intro z_tape_1' z_taped_2' v2_3' er H locs ls hP hD hS hl
        subst er
        rcases hor with ⟨s', e', hi⟩ | e'
        · cases e'; exact ih _ _ _ _ _ H locs ls hi hP hD hS hl kx
        · cases e'
      · intro z_tape_10' z_taped_11' er H locs ls hP hD hS hl
        subst er
        rcases hor with ⟨s', e', hi⟩ | e'
        · cases e'
        · cases e'; exact kx H locs ls hP hD hS hl
  obtain ⟨z_tape_10, z_taped_11, hi3, h⟩ := bnd2_el h
  refine L3 FUEL z_tape z_taped (24 : Int32) z_tape_10 z_taped_11 H locs ls hi3 hP hD hS (lv_sub hl [1, 2, 0] rfl) ?_
  intro H locs ls hP hD hS hl
  cases h
  exact hret _ _ _ _ hP hD hS dX12_four_36

/-! LadderLandModel.feed(IIIII)I -/
def f12_feed (z_tape : Nat → Int32) (z_taped : Int32) (a1 : Int32) (a2 : Int32) (a3 : Int32) (a4 : Int32) (a5 : Int32) : Option (Int32 × (Nat → Int32) × Int32) :=
if (z_taped + (20 : Int32)) ≤ (400 : Int32) then (bnd2 (f12_four z_tape z_taped a1) (fun z_tape_2 z_taped_3 =>
bnd2 (f12_four z_tape_2 z_taped_3 a2) (fun z_tape_5 z_taped_6 =>
bnd2 (f12_four z_tape_5 z_taped_6 a3) (fun z_tape_8 z_taped_9 =>
bnd2 (f12_four z_tape_8 z_taped_9 a4) (fun z_tape_11 z_taped_12 =>
bnd2 (f12_four z_tape_11 z_taped_12 a5) (fun z_tape_14 z_taped_15 =>
some (z_taped_15, z_tape_14, z_taped_15))))))) else (some ((-1 : Int32), z_tape, z_taped))

abbrev rm_f12_feed : Room := { frames := 1, cells := 0, slots := 0, locals := 22 }
theorem hd_f12_feed : yX12_feed.cls = RX12 ∧ yX12_feed.cls ≠ "java/lang/invoke/MethodHandle" ∧ yX12_feed.cls ≠ "java/lang/invoke/VarHandle" ∧ (parseMethodDescriptor yX12_feed.desc).map (fun d => d.parameters.length) = some 5 := by decide +kernel
set_option maxHeartbeats 4000000 in
set_option maxRecDepth 100000 in
theorem c12_feed {l : Launch} {D : va_G} {ad : Nat → Nat} {cy : Nat → ClassId} {z_tape : Nat → Int32} {z_taped : Int32} {z_rules : Int32} {z_sign : Nat → Int32} {z_length : Nat → Int32} {z_clause : Nat → Int32} {z_clauses : Nat → Int32} {z_read : Nat → Int32} {z_next : Int32} {z_wrong : Int32} {z_number : Int32} {z_text : Int32} {z_made : Int32} {z_deep : Int32} {z_lines : Int32} {z_open : Nat → Int32} {z_opened : Int32} {z_stack : Nat → Int64} {z_top : Int32} {z_word : Nat → Int64} {z_said : Nat → Int32} {z_force : Int32} {z_x : Int32} {z_will : Nat → Int32} {z_moved : Nat → Int32} {z_broke : Int32} {z_wasSaid : Nat → Int32} {z_undone : Int32} {z_kept : Nat → Int32} {z_breakHour : Int32} {z_far : Nat → Int32} {z_queue : Nat → Int32} {z_queued : Int32} {z_isOnWay : Nat → Int32} {z_movePerson : Int32} {z_moveKind : Int32} {z_isFit : Nat → Int32} {z_standThen : Nat → Int32} {z_drawX : Int64} {z_images : Nat → Int32} {z_imageForce : Nat → Int32} {z_imageX : Nat → Int32} {z_isMade : Nat → Int32} {a1 : Int32} {a2 : Int32} {a3 : Int32} {a4 : Int32} {a5 : Int32} {o_ret : Int32} {o_tape : Nat → Int32} {o_taped : Int32} (h : f12_feed z_tape z_taped a1 a2 a3 a4 a5 = some (o_ret, o_tape, o_taped)) : MetI l yX12_feed cX12_feed 6 (some .int) rm_f12_feed D (tM cy) (cM ad cy z_tape z_taped z_rules z_sign z_length z_clause z_clauses z_read z_next z_wrong z_number z_text z_made z_deep z_lines z_open z_opened z_stack z_top z_word z_said z_force z_x z_will z_moved z_broke z_wasSaid z_undone z_kept z_breakHour z_far z_queue z_queued z_isOnWay z_movePerson z_moveKind z_isFit z_standThen z_drawX z_images z_imageForce z_imageX z_isMade) (cM ad cy o_tape o_taped z_rules z_sign z_length z_clause z_clauses z_read z_next z_wrong z_number z_text z_made z_deep z_lines z_open z_opened z_stack z_top z_word z_said z_force z_x z_will z_moved z_broke z_wasSaid z_undone z_kept z_breakHour z_far z_queue z_queued z_isOnWay z_movePerson z_moveKind z_isFit z_standThen z_drawX z_images z_imageForce z_imageX z_isMade) [.ref (ad 0), .int a1, .int a2, .int a3, .int a4, .int a5] o_ret := by
  refine metI_of (own := RX12) rfl (by decide) (Nat.le_of_ble_eq_true rfl) ?_
  intro p e s m args below meth c A Q ls S hK hA hP hD hS hl hret
  obtain ⟨hx, hb, hml, hown, hts⟩ := id S
  replace hl : lv_has ls 6 [(0, .ref (ad 0)), (1, .int a1), (2, .int a2), (3, .int a3), (4, .int a4), (5, .int a5)] := hl
  generalize hH : s.heap = H at hP ⊢
  replace hS : va_S A s.heap H [] := by rw [← hH]; exact hS
  generalize hlo : ([] : List Loc) = locs at hS ⊢
  unfold f12_feed at h
  refine lv_aload_n hx hb dX12_feed_0 rfl (lv_at hl 0 rfl) ?_
  refine va_get (ci := 12) (v := .int z_taped) (C := RX12) (T := TX12) (N := 43) hx hb hts inlX12 hown hK hP 0 rfl rfl 1 (by decide) (hts _ mw_8_16) (fun _ h9 => h9) rfl dX12_feed_1 ?_
  refine lv_bipush (v := (20 : Int32)) hx hb dX12_feed_4 (by decide) ?_
  refine lv_iadd hx hb dX12_feed_6 ?_
  refine lv_sipush (v := (400 : Int32)) hx hb dX12_feed_7 (by decide) ?_
  refine lv_icmp_le (tgt := 15) hx hb dX12_feed_10 rfl (fun c1 => ?_) (fun c1 => ?_)
  · replace h := ite_t c1 h
    refine lv_aload_n hx hb dX12_feed_15 rfl (lv_at hl 0 rfl) ?_
    refine lv_iload_n hx hb dX12_feed_16 rfl (lv_at hl 1 rfl) ?_
    obtain ⟨z_tape_2, z_taped_3, hc4, h⟩ := bnd2_el h
    refine mcV_v (As := [.int a1]) (rest := []) S hK hP hD hS hA (c12_four hc4) (gdV mw_8_17 mw_8_18 mw_8_19 mw_1_5 mw_8_20) rfl rfl hd_f12_four ⟨Nat.le_of_ble_eq_true rfl, Nat.le_of_ble_eq_true rfl⟩ (ci := 12) (q0 := 0) rfl rfl rfl hl.1 rfl (by decide) dX12_feed_17 (fun H locs hP hD hS => ?_)
    refine lv_aload_n hx hb dX12_feed_20 rfl (lv_at hl 0 rfl) ?_
    refine lv_iload_n hx hb dX12_feed_21 rfl (lv_at hl 2 rfl) ?_
    obtain ⟨z_tape_5, z_taped_6, hc7, h⟩ := bnd2_el h
    refine mcV_v (As := [.int a2]) (rest := []) S hK hP hD hS hA (c12_four hc7) (gdV mw_8_17 mw_8_18 mw_8_19 mw_1_5 mw_8_20) rfl rfl hd_f12_four ⟨Nat.le_of_ble_eq_true rfl, Nat.le_of_ble_eq_true rfl⟩ (ci := 12) (q0 := 0) rfl rfl rfl hl.1 rfl (by decide) dX12_feed_22 (fun H locs hP hD hS => ?_)
    refine lv_aload_n hx hb dX12_feed_25 rfl (lv_at hl 0 rfl) ?_
    refine lv_iload_n hx hb dX12_feed_26 rfl (lv_at hl 3 rfl) ?_
    obtain ⟨z_tape_8, z_taped_9, hc10, h⟩ := bnd2_el h
    refine mcV_v (As := [.int a3]) (rest := []) S hK hP hD hS hA (c12_four hc10) (gdV mw_8_17 mw_8_18 mw_8_19 mw_1_5 mw_8_20) rfl rfl hd_f12_four ⟨Nat.le_of_ble_eq_true rfl, Nat.le_of_ble_eq_true rfl⟩ (ci := 12) (q0 := 0) rfl rfl rfl hl.1 rfl (by decide) dX12_feed_27 (fun H locs hP hD hS => ?_)
    refine lv_aload_n hx hb dX12_feed_30 rfl (lv_at hl 0 rfl) ?_
    refine lv_iload hx hb dX12_feed_31 (lv_at hl 4 rfl) ?_
    obtain ⟨z_tape_11, z_taped_12, hc13, h⟩ := bnd2_el h
    refine mcV_v (As := [.int a4]) (rest := []) S hK hP hD hS hA (c12_four hc13) (gdV mw_8_17 mw_8_18 mw_8_19 mw_1_5 mw_8_20) rfl rfl hd_f12_four ⟨Nat.le_of_ble_eq_true rfl, Nat.le_of_ble_eq_true rfl⟩ (ci := 12) (q0 := 0) rfl rfl rfl hl.1 rfl (by decide) dX12_feed_33 (fun H locs hP hD hS => ?_)
    refine lv_aload_n hx hb dX12_feed_36 rfl (lv_at hl 0 rfl) ?_
    refine lv_iload hx hb dX12_feed_37 (lv_at hl 5 rfl) ?_
    obtain ⟨z_tape_14, z_taped_15, hc16, h⟩ := bnd2_el h
    refine mcV_v (As := [.int a5]) (rest := []) S hK hP hD hS hA (c12_four hc16) (gdV mw_8_17 mw_8_18 mw_8_19 mw_1_5 mw_8_20) rfl rfl hd_f12_four ⟨Nat.le_of_ble_eq_true rfl, Nat.le_of_ble_eq_true rfl⟩ (ci := 12) (q0 := 0) rfl rfl rfl hl.1 rfl (by decide) dX12_feed_39 (fun H locs hP hD hS => ?_)
    refine lv_aload_n hx hb dX12_feed_42 rfl (lv_at hl 0 rfl) ?_
    refine va_get (ci := 12) (v := .int z_taped_15) (C := RX12) (T := TX12) (N := 43) hx hb hts inlX12 hown hK hP 0 rfl rfl 1 (by decide) (hts _ mw_8_16) (fun _ h9 => h9) rfl dX12_feed_43 ?_
    cases h
    exact hret _ _ _ _ _ hP hD hS rfl rfl dX12_feed_46
  · replace h := ite_f c1 h
    refine lv_iconst (v := (-1 : Int32)) hx hb dX12_feed_13 (by decide) ?_
    cases h
    exact hret _ _ _ _ _ hP hD hS rfl rfl dX12_feed_14

/-! LadderLandModel.end(I)I -/
def f12_end (z_taped : Int32) (a1 : Int32) : Option (Int32 × Int32) :=
if a1 < 0 then (some ((-1 : Int32), z_taped)) else (if a1 ≤ z_taped then (some (a1, a1)) else (some ((-1 : Int32), z_taped)))

abbrev rm_f12_end : Room := { frames := 0, cells := 0, slots := 0, locals := 0 }
theorem hd_f12_end : yX12_end.cls = RX12 ∧ yX12_end.cls ≠ "java/lang/invoke/MethodHandle" ∧ yX12_end.cls ≠ "java/lang/invoke/VarHandle" ∧ (parseMethodDescriptor yX12_end.desc).map (fun d => d.parameters.length) = some 1 := by decide +kernel
set_option maxHeartbeats 4000000 in
set_option maxRecDepth 100000 in
theorem c12_end {l : Launch} {D : va_G} {ad : Nat → Nat} {cy : Nat → ClassId} {z_tape : Nat → Int32} {z_taped : Int32} {z_rules : Int32} {z_sign : Nat → Int32} {z_length : Nat → Int32} {z_clause : Nat → Int32} {z_clauses : Nat → Int32} {z_read : Nat → Int32} {z_next : Int32} {z_wrong : Int32} {z_number : Int32} {z_text : Int32} {z_made : Int32} {z_deep : Int32} {z_lines : Int32} {z_open : Nat → Int32} {z_opened : Int32} {z_stack : Nat → Int64} {z_top : Int32} {z_word : Nat → Int64} {z_said : Nat → Int32} {z_force : Int32} {z_x : Int32} {z_will : Nat → Int32} {z_moved : Nat → Int32} {z_broke : Int32} {z_wasSaid : Nat → Int32} {z_undone : Int32} {z_kept : Nat → Int32} {z_breakHour : Int32} {z_far : Nat → Int32} {z_queue : Nat → Int32} {z_queued : Int32} {z_isOnWay : Nat → Int32} {z_movePerson : Int32} {z_moveKind : Int32} {z_isFit : Nat → Int32} {z_standThen : Nat → Int32} {z_drawX : Int64} {z_images : Nat → Int32} {z_imageForce : Nat → Int32} {z_imageX : Nat → Int32} {z_isMade : Nat → Int32} {a1 : Int32} {o_ret : Int32} {o_taped : Int32} (h : f12_end z_taped a1 = some (o_ret, o_taped)) : MetI l yX12_end cX12_end 2 (some .int) rm_f12_end D (tM cy) (cM ad cy z_tape z_taped z_rules z_sign z_length z_clause z_clauses z_read z_next z_wrong z_number z_text z_made z_deep z_lines z_open z_opened z_stack z_top z_word z_said z_force z_x z_will z_moved z_broke z_wasSaid z_undone z_kept z_breakHour z_far z_queue z_queued z_isOnWay z_movePerson z_moveKind z_isFit z_standThen z_drawX z_images z_imageForce z_imageX z_isMade) (cM ad cy z_tape o_taped z_rules z_sign z_length z_clause z_clauses z_read z_next z_wrong z_number z_text z_made z_deep z_lines z_open z_opened z_stack z_top z_word z_said z_force z_x z_will z_moved z_broke z_wasSaid z_undone z_kept z_breakHour z_far z_queue z_queued z_isOnWay z_movePerson z_moveKind z_isFit z_standThen z_drawX z_images z_imageForce z_imageX z_isMade) [.ref (ad 0), .int a1] o_ret := by
  refine metI_of (own := RX12) rfl (by decide) (Nat.le_of_ble_eq_true rfl) ?_
  intro p e s m args below meth c A Q ls S hK hA hP hD hS hl hret
  obtain ⟨hx, hb, hml, hown, hts⟩ := id S
  replace hl : lv_has ls 2 [(0, .ref (ad 0)), (1, .int a1)] := hl
  generalize hH : s.heap = H at hP ⊢
  replace hS : va_S A s.heap H [] := by rw [← hH]; exact hS
  generalize hlo : ([] : List Loc) = locs at hS ⊢
  unfold f12_end at h
  refine lv_iload_n hx hb dX12_end_0 rfl (lv_at hl 1 rfl) ?_
  refine lv_if_lt (tgt := 12) hx hb dX12_end_1 rfl (fun c1 => ?_) (fun c1 => ?_)
  · replace h := ite_t c1 h
    refine lv_iconst (v := (-1 : Int32)) hx hb dX12_end_12 (by decide) ?_
    cases h
    exact hret _ _ _ _ _ hP hD hS rfl rfl dX12_end_13
  · replace h := ite_f c1 h
    refine lv_iload_n hx hb dX12_end_4 rfl (lv_at hl 1 rfl) ?_
    refine lv_aload_n hx hb dX12_end_5 rfl (lv_at hl 0 rfl) ?_
    refine va_get (ci := 12) (v := .int z_taped) (C := RX12) (T := TX12) (N := 43) hx hb hts inlX12 hown hK hP 0 rfl rfl 1 (by decide) (hts _ mw_8_16) (fun _ h9 => h9) rfl dX12_end_6 ?_
    refine lv_icmp_le (tgt := 14) hx hb dX12_end_9 rfl (fun c2 => ?_) (fun c2 => ?_)
    · replace h := ite_t c2 h
      refine lv_aload_n hx hb dX12_end_14 rfl (lv_at hl 0 rfl) ?_
      refine lv_iload_n hx hb dX12_end_15 rfl (lv_at hl 1 rfl) ?_
      refine va_put (ci := 12) (v := .int a1) (ty := .int) (C := RX12) (T := TX12) (N := 43) hx hb hts inlX12 tyX12 tyX12_ok nmX12 hown hK hP hD hS 0 rfl rfl 1 (by decide) (hts _ mw_8_16) (fun _ h9 => h9) rfl (by decide +kernel) rfl rfl (Nat.le_of_ble_eq_true rfl) dX12_end_16 (fun H locs hP hD hS => ?_)
      replace hP : va_P D vwCl (cM ad cy z_tape a1 z_rules z_sign z_length z_clause z_clauses z_read z_next z_wrong z_number z_text z_made z_deep z_lines z_open z_opened z_stack z_top z_word z_said z_force z_x z_will z_moved z_broke z_wasSaid z_undone z_kept z_breakHour z_far z_queue z_queued z_isOnWay z_movePerson z_moveKind z_isFit z_standThen z_drawX z_images z_imageForce z_imageX z_isMade) H := hP
      replace hD : va_D A (cM ad cy z_tape a1 z_rules z_sign z_length z_clause z_clauses z_read z_next z_wrong z_number z_text z_made z_deep z_lines z_open z_opened z_stack z_top z_word z_said z_force z_x z_will z_moved z_broke z_wasSaid z_undone z_kept z_breakHour z_far z_queue z_queued z_isOnWay z_movePerson z_moveKind z_isFit z_standThen z_drawX z_images z_imageForce z_imageX z_isMade) := hD
      refine lv_iload_n hx hb dX12_end_19 rfl (lv_at hl 1 rfl) ?_
      cases h
      exact hret _ _ _ _ _ hP hD hS rfl rfl dX12_end_20
    · replace h := ite_f c2 h
      refine lv_iconst (v := (-1 : Int32)) hx hb dX12_end_12 (by decide) ?_
      cases h
      exact hret _ _ _ _ _ hP hD hS rfl rfl dX12_end_13

/-! LadderLandModel.fails(II)Z -/
def f12_fails (z_wrong : Int32) (a1 : Int32) (a2 : Int32) : Option (Int32 × Int32) :=
if z_wrong = 0 then (lt ((((1 : Int32) + ((8 : Int32) * a2)) + a1)) (fun x_2 =>
some ((0 : Int32), x_2))) else (some ((0 : Int32), z_wrong))

abbrev rm_f12_fails : Room := { frames := 0, cells := 0, slots := 0, locals := 0 }
theorem hd_f12_fails : yX12_fails.cls = RX12 ∧ yX12_fails.cls ≠ "java/lang/invoke/MethodHandle" ∧ yX12_fails.cls ≠ "java/lang/invoke/VarHandle" ∧ (parseMethodDescriptor yX12_fails.desc).map (fun d => d.parameters.length) = some 2 := by decide +kernel
set_option maxHeartbeats 4000000 in
set_option maxRecDepth 100000 in
theorem c12_fails {l : Launch} {D : va_G} {ad : Nat → Nat} {cy : Nat → ClassId} {z_tape : Nat → Int32} {z_taped : Int32} {z_rules : Int32} {z_sign : Nat → Int32} {z_length : Nat → Int32} {z_clause : Nat → Int32} {z_clauses : Nat → Int32} {z_read : Nat → Int32} {z_next : Int32} {z_wrong : Int32} {z_number : Int32} {z_text : Int32} {z_made : Int32} {z_deep : Int32} {z_lines : Int32} {z_open : Nat → Int32} {z_opened : Int32} {z_stack : Nat → Int64} {z_top : Int32} {z_word : Nat → Int64} {z_said : Nat → Int32} {z_force : Int32} {z_x : Int32} {z_will : Nat → Int32} {z_moved : Nat → Int32} {z_broke : Int32} {z_wasSaid : Nat → Int32} {z_undone : Int32} {z_kept : Nat → Int32} {z_breakHour : Int32} {z_far : Nat → Int32} {z_queue : Nat → Int32} {z_queued : Int32} {z_isOnWay : Nat → Int32} {z_movePerson : Int32} {z_moveKind : Int32} {z_isFit : Nat → Int32} {z_standThen : Nat → Int32} {z_drawX : Int64} {z_images : Nat → Int32} {z_imageForce : Nat → Int32} {z_imageX : Nat → Int32} {z_isMade : Nat → Int32} {a1 : Int32} {a2 : Int32} {o_ret : Int32} {o_wrong : Int32} (h : f12_fails z_wrong a1 a2 = some (o_ret, o_wrong)) : MetI l yX12_fails cX12_fails 3 (some .boolean) rm_f12_fails D (tM cy) (cM ad cy z_tape z_taped z_rules z_sign z_length z_clause z_clauses z_read z_next z_wrong z_number z_text z_made z_deep z_lines z_open z_opened z_stack z_top z_word z_said z_force z_x z_will z_moved z_broke z_wasSaid z_undone z_kept z_breakHour z_far z_queue z_queued z_isOnWay z_movePerson z_moveKind z_isFit z_standThen z_drawX z_images z_imageForce z_imageX z_isMade) (cM ad cy z_tape z_taped z_rules z_sign z_length z_clause z_clauses z_read z_next o_wrong z_number z_text z_made z_deep z_lines z_open z_opened z_stack z_top z_word z_said z_force z_x z_will z_moved z_broke z_wasSaid z_undone z_kept z_breakHour z_far z_queue z_queued z_isOnWay z_movePerson z_moveKind z_isFit z_standThen z_drawX z_images z_imageForce z_imageX z_isMade) [.ref (ad 0), .int a1, .int a2] o_ret := by
  refine metI_of (own := RX12) rfl (by decide) (Nat.le_of_ble_eq_true rfl) ?_
  intro p e s m args below meth c A Q ls S hK hA hP hD hS hl hret
  obtain ⟨hx, hb, hml, hown, hts⟩ := id S
  replace hl : lv_has ls 3 [(0, .ref (ad 0)), (1, .int a1), (2, .int a2)] := hl
  generalize hH : s.heap = H at hP ⊢
  replace hS : va_S A s.heap H [] := by rw [← hH]; exact hS
  generalize hlo : ([] : List Loc) = locs at hS ⊢
  unfold f12_fails at h
  refine lv_aload_n hx hb dX12_fails_0 rfl (lv_at hl 0 rfl) ?_
  refine va_get (ci := 12) (v := .int z_wrong) (C := RX12) (T := TX12) (N := 43) hx hb hts inlX12 hown hK hP 0 rfl rfl 9 (by decide) (hts _ mw_15_21) (fun _ h9 => h9) rfl dX12_fails_1 ?_
  refine lv_if_ne (tgt := 19) hx hb dX12_fails_4 rfl (fun c1 => ?_) (fun c1 => ?_)
  · replace h := ite_f c1 h
    refine lv_iconst (v := (0 : Int32)) hx hb dX12_fails_19 (by decide) ?_
    cases h
    exact hret _ _ _ _ _ hP hD hS rfl nz0 dX12_fails_20
  · replace h := ite_t c1 h
    refine lv_aload_n hx hb dX12_fails_7 rfl (lv_at hl 0 rfl) ?_
    refine lv_iconst (v := (1 : Int32)) hx hb dX12_fails_8 (by decide) ?_
    refine lv_bipush (v := (8 : Int32)) hx hb dX12_fails_9 (by decide) ?_
    refine lv_iload_n hx hb dX12_fails_11 rfl (lv_at hl 2 rfl) ?_
    refine lv_imul hx hb dX12_fails_12 ?_
    refine lv_iadd hx hb dX12_fails_13 ?_
    refine lv_iload_n hx hb dX12_fails_14 rfl (lv_at hl 1 rfl) ?_
    refine lv_iadd hx hb dX12_fails_15 ?_
    refine lv_topi (fun x_2 ex_2 => ?_)
    replace h := lt_ex ex_2 h
    refine va_put (ci := 12) (v := .int x_2) (ty := .int) (C := RX12) (T := TX12) (N := 43) hx hb hts inlX12 tyX12 tyX12_ok nmX12 hown hK hP hD hS 0 rfl rfl 9 (by decide) (hts _ mw_15_21) (fun _ h9 => h9) rfl (by decide +kernel) rfl rfl (Nat.le_of_ble_eq_true rfl) dX12_fails_16 (fun H locs hP hD hS => ?_)
    replace hP : va_P D vwCl (cM ad cy z_tape z_taped z_rules z_sign z_length z_clause z_clauses z_read z_next x_2 z_number z_text z_made z_deep z_lines z_open z_opened z_stack z_top z_word z_said z_force z_x z_will z_moved z_broke z_wasSaid z_undone z_kept z_breakHour z_far z_queue z_queued z_isOnWay z_movePerson z_moveKind z_isFit z_standThen z_drawX z_images z_imageForce z_imageX z_isMade) H := hP
    replace hD : va_D A (cM ad cy z_tape z_taped z_rules z_sign z_length z_clause z_clauses z_read z_next x_2 z_number z_text z_made z_deep z_lines z_open z_opened z_stack z_top z_word z_said z_force z_x z_will z_moved z_broke z_wasSaid z_undone z_kept z_breakHour z_far z_queue z_queued z_isOnWay z_movePerson z_moveKind z_isFit z_standThen z_drawX z_images z_imageForce z_imageX z_isMade) := hD
    refine lv_iconst (v := (0 : Int32)) hx hb dX12_fails_19 (by decide) ?_
    cases h
    exact hret _ _ _ _ _ hP hD hS rfl nz0 dX12_fails_20

/-! LadderLandModel.see()I -/
def f12_see_B0 (z_taped : Int32) (z_tape : Nat → Int32) (z_next_1 : Int32) : Option ((Int32) ⊕ (Int32)) :=
if z_taped ≤ z_next_1 then (some (.inr z_next_1)) else (if z_next_1 < 0 ∨ 400 ≤ Int32.toNatClampNeg z_next_1 then none else (
if (z_tape (Int32.toNatClampNeg z_next_1)) = (32 : Int32) then (lt ((z_next_1 + (1 : Int32))) (fun x_5 =>
some (.inl x_5))) else (some (.inr z_next_1))))

def f12_see (z_tape : Nat → Int32) (z_taped : Int32) (z_next : Int32) : Option (Int32 × Int32) :=
bnd1 (iter (fun (z : Int32) => f12_see_B0 z_taped z_tape z) FUEL z_next) (fun z_next_6 =>
if z_taped ≤ z_next_6 then (some ((-1 : Int32), z_next_6)) else (if z_next_6 < 0 ∨ 400 ≤ Int32.toNatClampNeg z_next_6 then none else (
some (((z_tape (Int32.toNatClampNeg z_next_6)) &&& (255 : Int32)), z_next_6))))

abbrev rm_f12_see : Room := { frames := 0, cells := 0, slots := 0, locals := 0 }
theorem hd_f12_see : yX12_see.cls = RX12 ∧ yX12_see.cls ≠ "java/lang/invoke/MethodHandle" ∧ yX12_see.cls ≠ "java/lang/invoke/VarHandle" ∧ (parseMethodDescriptor yX12_see.desc).map (fun d => d.parameters.length) = some 0 := by decide +kernel
set_option maxHeartbeats 4000000 in
set_option maxRecDepth 100000 in
theorem c12_see {l : Launch} {D : va_G} {ad : Nat → Nat} {cy : Nat → ClassId} {z_tape : Nat → Int32} {z_taped : Int32} {z_rules : Int32} {z_sign : Nat → Int32} {z_length : Nat → Int32} {z_clause : Nat → Int32} {z_clauses : Nat → Int32} {z_read : Nat → Int32} {z_next : Int32} {z_wrong : Int32} {z_number : Int32} {z_text : Int32} {z_made : Int32} {z_deep : Int32} {z_lines : Int32} {z_open : Nat → Int32} {z_opened : Int32} {z_stack : Nat → Int64} {z_top : Int32} {z_word : Nat → Int64} {z_said : Nat → Int32} {z_force : Int32} {z_x : Int32} {z_will : Nat → Int32} {z_moved : Nat → Int32} {z_broke : Int32} {z_wasSaid : Nat → Int32} {z_undone : Int32} {z_kept : Nat → Int32} {z_breakHour : Int32} {z_far : Nat → Int32} {z_queue : Nat → Int32} {z_queued : Int32} {z_isOnWay : Nat → Int32} {z_movePerson : Int32} {z_moveKind : Int32} {z_isFit : Nat → Int32} {z_standThen : Nat → Int32} {z_drawX : Int64} {z_images : Nat → Int32} {z_imageForce : Nat → Int32} {z_imageX : Nat → Int32} {z_isMade : Nat → Int32} {o_ret : Int32} {o_next : Int32} (h : f12_see z_tape z_taped z_next = some (o_ret, o_next)) : MetI l yX12_see cX12_see 1 (some .int) rm_f12_see D (tM cy) (cM ad cy z_tape z_taped z_rules z_sign z_length z_clause z_clauses z_read z_next z_wrong z_number z_text z_made z_deep z_lines z_open z_opened z_stack z_top z_word z_said z_force z_x z_will z_moved z_broke z_wasSaid z_undone z_kept z_breakHour z_far z_queue z_queued z_isOnWay z_movePerson z_moveKind z_isFit z_standThen z_drawX z_images z_imageForce z_imageX z_isMade) (cM ad cy z_tape z_taped z_rules z_sign z_length z_clause z_clauses z_read o_next z_wrong z_number z_text z_made z_deep z_lines z_open z_opened z_stack z_top z_word z_said z_force z_x z_will z_moved z_broke z_wasSaid z_undone z_kept z_breakHour z_far z_queue z_queued z_isOnWay z_movePerson z_moveKind z_isFit z_standThen z_drawX z_images z_imageForce z_imageX z_isMade) [.ref (ad 0)] o_ret := by
  refine metI_of (own := RX12) rfl (by decide) (Nat.le_of_ble_eq_true rfl) ?_
  intro p e s m args below meth c A Q ls S hK hA hP hD hS hl hret
  obtain ⟨hx, hb, hml, hown, hts⟩ := id S
  replace hl : lv_has ls 1 [(0, .ref (ad 0))] := hl
  generalize hH : s.heap = H at hP ⊢
  replace hS : va_S A s.heap H [] := by rw [← hH]; exact hS
  generalize hlo : ([] : List Loc) = locs at hS ⊢
  unfold f12_see at h
  have B0 : ∀ (z_next_1 : Int32) (r : (Int32) ⊕ (Int32)) (H : Heap) (locs : List Loc) (ls : Array Slot), f12_see_B0 z_taped z_tape z_next_1 = some r → va_P D vwCl (cM ad cy z_tape z_taped z_rules z_sign z_length z_clause z_clauses z_read z_next_1 z_wrong z_number z_text z_made z_deep z_lines z_open z_opened z_stack z_top z_word z_said z_force z_x z_will z_moved z_broke z_wasSaid z_undone z_kept z_breakHour z_far z_queue z_queued z_isOnWay z_movePerson z_moveKind z_isFit z_standThen z_drawX z_images z_imageForce z_imageX z_isMade) H → va_D A (cM ad cy z_tape z_taped z_rules z_sign z_length z_clause z_clauses z_read z_next_1 z_wrong z_number z_text z_made z_deep z_lines z_open z_opened z_stack z_top z_word z_said z_force z_x z_will z_moved z_broke z_wasSaid z_undone z_kept z_breakHour z_far z_queue z_queued z_isOnWay z_movePerson z_moveKind z_isFit z_standThen z_drawX z_images z_imageForce z_imageX z_isMade) → va_S A s.heap H locs → lv_has ls 1 [(0, .ref (ad 0))] → (∀ (z_next_1 : Int32), r = .inl z_next_1 → ∀ (H : Heap) (locs : List Loc) (ls : Array Slot), va_P D vwCl (cM ad cy z_tape z_taped z_rules z_sign z_length z_clause z_clauses z_read z_next_1 z_wrong z_number z_text z_made z_deep z_lines z_open z_opened z_stack z_top z_word z_said z_force z_x z_will z_moved z_broke z_wasSaid z_undone z_kept z_breakHour z_far z_queue z_queued z_isOnWay z_movePerson z_moveKind z_isFit z_standThen z_drawX z_images z_imageForce z_imageX z_isMade) H → va_D A (cM ad cy z_tape z_taped z_rules z_sign z_length z_clause z_clauses z_read z_next_1 z_wrong z_number z_text z_made z_deep z_lines z_open z_opened z_stack z_top z_word z_said z_force z_x z_will z_moved z_broke z_wasSaid z_undone z_kept z_breakHour z_far z_queue z_queued z_isOnWay z_movePerson z_moveKind z_isFit z_standThen z_drawX z_images z_imageForce z_imageX z_isMade) → va_S A s.heap H locs → lv_has ls 1 [(0, .ref (ad 0))] → W p l e rm_f12_see s m args below meth c H locs 0 0 Q (F0 m 0 ls [])) → (∀ (z_next_6 : Int32), r = .inr z_next_6 → ∀ (H : Heap) (locs : List Loc) (ls : Array Slot), va_P D vwCl (cM ad cy z_tape z_taped z_rules z_sign z_length z_clause z_clauses z_read z_next_6 z_wrong z_number z_text z_made z_deep z_lines z_open z_opened z_stack z_top z_word z_said z_force z_x z_will z_moved z_broke z_wasSaid z_undone z_kept z_breakHour z_far z_queue z_queued z_isOnWay z_movePerson z_moveKind z_isFit z_standThen z_drawX z_images z_imageForce z_imageX z_isMade) H → va_D A (cM ad cy z_tape z_taped z_rules z_sign z_length z_clause z_clauses z_read z_next_6 z_wrong z_number z_text z_made z_deep z_lines z_open z_opened z_stack z_top z_word z_said z_force z_x z_will z_moved z_broke z_wasSaid z_undone z_kept z_breakHour z_far z_queue z_queued z_isOnWay z_movePerson z_moveKind z_isFit z_standThen z_drawX z_images z_imageForce z_imageX z_isMade) → va_S A s.heap H locs → lv_has ls 1 [(0, .ref (ad 0))] → W p l e rm_f12_see s m args below meth c H locs 0 0 Q (F0 m 38 ls [])) → W p l e rm_f12_see s m args below meth c H locs 0 0 Q (F0 m 0 ls []) := by
    intro z_next_1 r H locs ls h hP hD hS hl kl kx
    unfold f12_see_B0 at h
    refine lv_aload_n hx hb dX12_see_0 rfl (lv_at hl 0 rfl) ?_
    refine va_get (ci := 12) (v := .int z_next_1) (C := RX12) (T := TX12) (N := 43) hx hb hts inlX12 hown hK hP 0 rfl rfl 8 (by decide) (hts _ mw_16_4) (fun _ h9 => h9) rfl dX12_see_1 ?_
    refine lv_aload_n hx hb dX12_see_4 rfl (lv_at hl 0 rfl) ?_
    refine va_get (ci := 12) (v := .int z_taped) (C := RX12) (T := TX12) (N := 43) hx hb hts inlX12 hown hK hP 0 rfl rfl 1 (by decide) (hts _ mw_8_16) (fun _ h9 => h9) rfl dX12_see_5 ?_
    refine lv_icmp_ge (tgt := 38) hx hb dX12_see_8 rfl (fun c2 => ?_) (fun c2 => ?_)
    · replace h := ite_t c2 h
      cases h
      exact kx _ rfl H locs ls hP hD hS (lv_sub hl [0] rfl)
    · replace h := ite_f c2 h
      refine lv_aload_n hx hb dX12_see_11 rfl (lv_at hl 0 rfl) ?_
      refine va_get (ci := 12) (v := .ref (ad 1)) (C := RX12) (T := TX12) (N := 43) hx hb hts inlX12 hown hK hP 0 rfl rfl 0 (by decide) (hts _ mw_7_1) (fun _ h9 => h9) rfl dX12_see_12 ?_
      refine lv_aload_n hx hb dX12_see_15 rfl (lv_at hl 0 rfl) ?_
      refine va_get (ci := 12) (v := .int z_next_1) (C := RX12) (T := TX12) (N := 43) hx hb hts inlX12 hown hK hP 0 rfl rfl 8 (by decide) (hts _ mw_16_4) (fun _ h9 => h9) rfl dX12_see_16 ?_
      obtain ⟨b3, h⟩ := bd_el h
      refine va_bald hx hb hK hP 1 0 rfl rfl b3 dX12_see_19 ?_
      refine lv_bipush (v := (32 : Int32)) hx hb dX12_see_20 (by decide) ?_
      refine lv_icmp_ne (tgt := 38) hx hb dX12_see_22 rfl (fun c4 => ?_) (fun c4 => ?_)
      · replace h := ite_f c4 h
        cases h
        exact kx _ rfl H locs ls hP hD hS (lv_sub hl [0] rfl)
      · replace h := ite_t c4 h
        refine lv_aload_n hx hb dX12_see_25 rfl (lv_at hl 0 rfl) ?_
        refine lv_dup hx hb dX12_see_26 rfl ?_
        refine va_get (ci := 12) (v := .int z_next_1) (C := RX12) (T := TX12) (N := 43) hx hb hts inlX12 hown hK hP 0 rfl rfl 8 (by decide) (hts _ mw_16_4) (fun _ h9 => h9) rfl dX12_see_27 ?_
        refine lv_iconst (v := (1 : Int32)) hx hb dX12_see_30 (by decide) ?_
        refine lv_iadd hx hb dX12_see_31 ?_
        refine lv_topi (fun x_5 ex_5 => ?_)
        replace h := lt_ex ex_5 h
        refine va_put (ci := 12) (v := .int x_5) (ty := .int) (C := RX12) (T := TX12) (N := 43) hx hb hts inlX12 tyX12 tyX12_ok nmX12 hown hK hP hD hS 0 rfl rfl 8 (by decide) (hts _ mw_16_4) (fun _ h9 => h9) rfl (by decide +kernel) rfl rfl (Nat.le_of_ble_eq_true rfl) dX12_see_32 (fun H locs hP hD hS => ?_)
        replace hP : va_P D vwCl (cM ad cy z_tape z_taped z_rules z_sign z_length z_clause z_clauses z_read x_5 z_wrong z_number z_text z_made z_deep z_lines z_open z_opened z_stack z_top z_word z_said z_force z_x z_will z_moved z_broke z_wasSaid z_undone z_kept z_breakHour z_far z_queue z_queued z_isOnWay z_movePerson z_moveKind z_isFit z_standThen z_drawX z_images z_imageForce z_imageX z_isMade) H := hP
        replace hD : va_D A (cM ad cy z_tape z_taped z_rules z_sign z_length z_clause z_clauses z_read x_5 z_wrong z_number z_text z_made z_deep z_lines z_open z_opened z_stack z_top z_word z_said z_force z_x z_will z_moved z_broke z_wasSaid z_undone z_kept z_breakHour z_far z_queue z_queued z_isOnWay z_movePerson z_moveKind z_isFit z_standThen z_drawX z_images z_imageForce z_imageX z_isMade) := hD
        refine lv_goto (tgt := 0) hx hb dX12_see_35 rfl ?_
        cases h
        exact kl _ rfl H locs ls hP hD hS (lv_sub hl [0] rfl)
  have L0 : ∀ (n : Nat) (z_next_1 : Int32) (z_next_6 : Int32) (H : Heap) (locs : List Loc) (ls : Array Slot), iter (fun (z : Int32) => f12_see_B0 z_taped z_tape z) n z_next_1 = some z_next_6 → va_P D vwCl (cM ad cy z_tape z_taped z_rules z_sign z_length z_clause z_clauses z_read z_next_1 z_wrong z_number z_text z_made z_deep z_lines z_open z_opened z_stack z_top z_word z_said z_force z_x z_will z_moved z_broke z_wasSaid z_undone z_kept z_breakHour z_far z_queue z_queued z_isOnWay z_movePerson z_moveKind z_isFit z_standThen z_drawX z_images z_imageForce z_imageX z_isMade) H → va_D A (cM ad cy z_tape z_taped z_rules z_sign z_length z_clause z_clauses z_read z_next_1 z_wrong z_number z_text z_made z_deep z_lines z_open z_opened z_stack z_top z_word z_said z_force z_x z_will z_moved z_broke z_wasSaid z_undone z_kept z_breakHour z_far z_queue z_queued z_isOnWay z_movePerson z_moveKind z_isFit z_standThen z_drawX z_images z_imageForce z_imageX z_isMade) → va_S A s.heap H locs → lv_has ls 1 [(0, .ref (ad 0))] → (∀ (H : Heap) (locs : List Loc) (ls : Array Slot), va_P D vwCl (cM ad cy z_tape z_taped z_rules z_sign z_length z_clause z_clauses z_read z_next_6 z_wrong z_number z_text z_made z_deep z_lines z_open z_opened z_stack z_top z_word z_said z_force z_x z_will z_moved z_broke z_wasSaid z_undone z_kept z_breakHour z_far z_queue z_queued z_isOnWay z_movePerson z_moveKind z_isFit z_standThen z_drawX z_images z_imageForce z_imageX z_isMade) H → va_D A (cM ad cy z_tape z_taped z_rules z_sign z_length z_clause z_clauses z_read z_next_6 z_wrong z_number z_text z_made z_deep z_lines z_open z_opened z_stack z_top z_word z_said z_force z_x z_will z_moved z_broke z_wasSaid z_undone z_kept z_breakHour z_far z_queue z_queued z_isOnWay z_movePerson z_moveKind z_isFit z_standThen z_drawX z_images z_imageForce z_imageX z_isMade) → va_S A s.heap H locs → lv_has ls 1 [(0, .ref (ad 0))] → W p l e rm_f12_see s m args below meth c H locs 0 0 Q (F0 m 38 ls [])) → W p l e rm_f12_see s m args below meth c H locs 0 0 Q (F0 m 0 ls []) := by
    intro n
    induction n with
    | zero => intro z_next_1 z_next_6 H locs ls h; exact (iter_0 h).elim
    | succ n ih =>
      intro z_next_1 z_next_6 H locs ls h hP hD hS hl kx
      obtain ⟨r, hb9, hor⟩ := iter_el h
      refine B0 z_next_1 r H locs ls hb9 hP hD hS hl ?_ ?_
      · intro z_next_1' er H locs ls hP hD hS hl
        subst er
        rcases hor with ⟨s', e', hi⟩ | e'
        · cases e'; exact ih _ _ H locs ls hi hP hD hS hl kx
        · cases e'
      · intro z_next_6' er H locs ls hP hD hS hl
        subst er
        rcases hor with ⟨s', e', hi⟩ | e'
        · cases e'
        · cases e'; exact kx H locs ls hP hD hS hl
  obtain ⟨z_next_6, hi0, h⟩ := bnd1_el h
  refine L0 FUEL z_next z_next_6 H locs ls hi0 hP hD hS (lv_sub hl [0] rfl) ?_
  intro H locs ls hP hD hS hl
  refine lv_aload_n hx hb dX12_see_38 rfl (lv_at hl 0 rfl) ?_
  refine va_get (ci := 12) (v := .int z_next_6) (C := RX12) (T := TX12) (N := 43) hx hb hts inlX12 hown hK hP 0 rfl rfl 8 (by decide) (hts _ mw_16_4) (fun _ h9 => h9) rfl dX12_see_39 ?_
  refine lv_aload_n hx hb dX12_see_42 rfl (lv_at hl 0 rfl) ?_
  refine va_get (ci := 12) (v := .int z_taped) (C := RX12) (T := TX12) (N := 43) hx hb hts inlX12 hown hK hP 0 rfl rfl 1 (by decide) (hts _ mw_8_16) (fun _ h9 => h9) rfl dX12_see_43 ?_
  refine lv_icmp_ge (tgt := 65) hx hb dX12_see_46 rfl (fun c7 => ?_) (fun c7 => ?_)
  · replace h := ite_t c7 h
    refine lv_iconst (v := (-1 : Int32)) hx hb dX12_see_65 (by decide) ?_
    cases h
    exact hret _ _ _ _ _ hP hD hS rfl rfl dX12_see_66
  · replace h := ite_f c7 h
    refine lv_aload_n hx hb dX12_see_49 rfl (lv_at hl 0 rfl) ?_
    refine va_get (ci := 12) (v := .ref (ad 1)) (C := RX12) (T := TX12) (N := 43) hx hb hts inlX12 hown hK hP 0 rfl rfl 0 (by decide) (hts _ mw_7_1) (fun _ h9 => h9) rfl dX12_see_50 ?_
    refine lv_aload_n hx hb dX12_see_53 rfl (lv_at hl 0 rfl) ?_
    refine va_get (ci := 12) (v := .int z_next_6) (C := RX12) (T := TX12) (N := 43) hx hb hts inlX12 hown hK hP 0 rfl rfl 8 (by decide) (hts _ mw_16_4) (fun _ h9 => h9) rfl dX12_see_54 ?_
    obtain ⟨b8, h⟩ := bd_el h
    refine va_bald hx hb hK hP 1 0 rfl rfl b8 dX12_see_57 ?_
    refine lv_sipush (v := (255 : Int32)) hx hb dX12_see_58 (by decide) ?_
    refine lv_iand hx hb dX12_see_61 ?_
    refine lv_goto (tgt := 66) hx hb dX12_see_62 rfl ?_
    cases h
    exact hret _ _ _ _ _ hP hD hS rfl rfl dX12_see_66

/-! LadderLandModel.isDigit(I)Z -/
def f12_isDigit (z_tape : Nat → Int32) (z_taped : Int32) (a1 : Int32) : Option (Int32) :=
if z_taped ≤ a1 then (some (0 : Int32)) else (if a1 < 0 ∨ 400 ≤ Int32.toNatClampNeg a1 then none else (
if (z_tape (Int32.toNatClampNeg a1)) < (48 : Int32) then (some (0 : Int32)) else (if a1 < 0 ∨ 400 ≤ Int32.toNatClampNeg a1 then none else (
if (57 : Int32) < (z_tape (Int32.toNatClampNeg a1)) then (some (0 : Int32)) else (some (1 : Int32))))))

abbrev rm_f12_isDigit : Room := { frames := 0, cells := 0, slots := 0, locals := 0 }
theorem hd_f12_isDigit : yX12_isDigit.cls = RX12 ∧ yX12_isDigit.cls ≠ "java/lang/invoke/MethodHandle" ∧ yX12_isDigit.cls ≠ "java/lang/invoke/VarHandle" ∧ (parseMethodDescriptor yX12_isDigit.desc).map (fun d => d.parameters.length) = some 1 := by decide +kernel
set_option maxHeartbeats 4000000 in
set_option maxRecDepth 100000 in
theorem c12_isDigit {l : Launch} {D : va_G} {ad : Nat → Nat} {cy : Nat → ClassId} {z_tape : Nat → Int32} {z_taped : Int32} {z_rules : Int32} {z_sign : Nat → Int32} {z_length : Nat → Int32} {z_clause : Nat → Int32} {z_clauses : Nat → Int32} {z_read : Nat → Int32} {z_next : Int32} {z_wrong : Int32} {z_number : Int32} {z_text : Int32} {z_made : Int32} {z_deep : Int32} {z_lines : Int32} {z_open : Nat → Int32} {z_opened : Int32} {z_stack : Nat → Int64} {z_top : Int32} {z_word : Nat → Int64} {z_said : Nat → Int32} {z_force : Int32} {z_x : Int32} {z_will : Nat → Int32} {z_moved : Nat → Int32} {z_broke : Int32} {z_wasSaid : Nat → Int32} {z_undone : Int32} {z_kept : Nat → Int32} {z_breakHour : Int32} {z_far : Nat → Int32} {z_queue : Nat → Int32} {z_queued : Int32} {z_isOnWay : Nat → Int32} {z_movePerson : Int32} {z_moveKind : Int32} {z_isFit : Nat → Int32} {z_standThen : Nat → Int32} {z_drawX : Int64} {z_images : Nat → Int32} {z_imageForce : Nat → Int32} {z_imageX : Nat → Int32} {z_isMade : Nat → Int32} {a1 : Int32} {o_ret : Int32} (h : f12_isDigit z_tape z_taped a1 = some o_ret) : MetI l yX12_isDigit cX12_isDigit 2 (some .boolean) rm_f12_isDigit D (tM cy) (cM ad cy z_tape z_taped z_rules z_sign z_length z_clause z_clauses z_read z_next z_wrong z_number z_text z_made z_deep z_lines z_open z_opened z_stack z_top z_word z_said z_force z_x z_will z_moved z_broke z_wasSaid z_undone z_kept z_breakHour z_far z_queue z_queued z_isOnWay z_movePerson z_moveKind z_isFit z_standThen z_drawX z_images z_imageForce z_imageX z_isMade) (cM ad cy z_tape z_taped z_rules z_sign z_length z_clause z_clauses z_read z_next z_wrong z_number z_text z_made z_deep z_lines z_open z_opened z_stack z_top z_word z_said z_force z_x z_will z_moved z_broke z_wasSaid z_undone z_kept z_breakHour z_far z_queue z_queued z_isOnWay z_movePerson z_moveKind z_isFit z_standThen z_drawX z_images z_imageForce z_imageX z_isMade) [.ref (ad 0), .int a1] o_ret := by
  refine metI_of (own := RX12) rfl (by decide) (Nat.le_of_ble_eq_true rfl) ?_
  intro p e s m args below meth c A Q ls S hK hA hP hD hS hl hret
  obtain ⟨hx, hb, hml, hown, hts⟩ := id S
  replace hl : lv_has ls 2 [(0, .ref (ad 0)), (1, .int a1)] := hl
  generalize hH : s.heap = H at hP ⊢
  replace hS : va_S A s.heap H [] := by rw [← hH]; exact hS
  generalize hlo : ([] : List Loc) = locs at hS ⊢
  unfold f12_isDigit at h
  refine lv_iload_n hx hb dX12_isDigit_0 rfl (lv_at hl 1 rfl) ?_
  refine lv_aload_n hx hb dX12_isDigit_1 rfl (lv_at hl 0 rfl) ?_
  refine va_get (ci := 12) (v := .int z_taped) (C := RX12) (T := TX12) (N := 43) hx hb hts inlX12 hown hK hP 0 rfl rfl 1 (by decide) (hts _ mw_8_16) (fun _ h9 => h9) rfl dX12_isDigit_2 ?_
  refine lv_icmp_ge (tgt := 34) hx hb dX12_isDigit_5 rfl (fun c1 => ?_) (fun c1 => ?_)
  · replace h := ite_t c1 h
    refine lv_iconst (v := (0 : Int32)) hx hb dX12_isDigit_34 (by decide) ?_
    cases h
    exact hret _ _ _ _ _ hP hD hS rfl nz0 dX12_isDigit_35
  · replace h := ite_f c1 h
    refine lv_aload_n hx hb dX12_isDigit_8 rfl (lv_at hl 0 rfl) ?_
    refine va_get (ci := 12) (v := .ref (ad 1)) (C := RX12) (T := TX12) (N := 43) hx hb hts inlX12 hown hK hP 0 rfl rfl 0 (by decide) (hts _ mw_7_1) (fun _ h9 => h9) rfl dX12_isDigit_9 ?_
    refine lv_iload_n hx hb dX12_isDigit_12 rfl (lv_at hl 1 rfl) ?_
    obtain ⟨b2, h⟩ := bd_el h
    refine va_bald hx hb hK hP 1 0 rfl rfl b2 dX12_isDigit_13 ?_
    refine lv_bipush (v := (48 : Int32)) hx hb dX12_isDigit_14 (by decide) ?_
    refine lv_icmp_lt (tgt := 34) hx hb dX12_isDigit_16 rfl (fun c3 => ?_) (fun c3 => ?_)
    · replace h := ite_t c3 h
      refine lv_iconst (v := (0 : Int32)) hx hb dX12_isDigit_34 (by decide) ?_
      cases h
      exact hret _ _ _ _ _ hP hD hS rfl nz0 dX12_isDigit_35
    · replace h := ite_f c3 h
      refine lv_aload_n hx hb dX12_isDigit_19 rfl (lv_at hl 0 rfl) ?_
      refine va_get (ci := 12) (v := .ref (ad 1)) (C := RX12) (T := TX12) (N := 43) hx hb hts inlX12 hown hK hP 0 rfl rfl 0 (by decide) (hts _ mw_7_1) (fun _ h9 => h9) rfl dX12_isDigit_20 ?_
      refine lv_iload_n hx hb dX12_isDigit_23 rfl (lv_at hl 1 rfl) ?_
      obtain ⟨b4, h⟩ := bd_el h
      refine va_bald hx hb hK hP 1 0 rfl rfl b4 dX12_isDigit_24 ?_
      refine lv_bipush (v := (57 : Int32)) hx hb dX12_isDigit_25 (by decide) ?_
      refine lv_icmp_gt (tgt := 34) hx hb dX12_isDigit_27 rfl (fun c5 => ?_) (fun c5 => ?_)
      · replace h := ite_t c5 h
        refine lv_iconst (v := (0 : Int32)) hx hb dX12_isDigit_34 (by decide) ?_
        cases h
        exact hret _ _ _ _ _ hP hD hS rfl nz0 dX12_isDigit_35
      · replace h := ite_f c5 h
        refine lv_iconst (v := (1 : Int32)) hx hb dX12_isDigit_30 (by decide) ?_
        refine lv_goto (tgt := 35) hx hb dX12_isDigit_31 rfl ?_
        cases h
        exact hret _ _ _ _ _ hP hD hS rfl nz1 dX12_isDigit_35

