/-! THE CLAIM OUT OF ONE WALK OF THE LAW'S BODY. Your part is whole_start (and what it stands on); all else here is the same for every law, but numbers. -/
def R_law : String := "LadderLandLaw"
def lw_P (b : Addr) (xs : List Int32) (args : Array Value) (s : State) : Prop := args = #[.ref b] ∧ s.IntsAt b xs ∧ xs.length ≤ 3072 ∧ (Jvm.Cond.and given_1 narrow_1).before args s = true
def lw_Q (_ : Array Value) (s : State) (o : Outcome) (t : State) : Prop := o = .returned (some (.int 1)) ∧ Framed s o t [] 600000 7302250
def lw_Z (below : List Frame) (a : Array Value) (s : State) : State → Prop := fun t => ∃ o, t.status = .running ∧ Ended t below o ∧ lw_Q a s o t
/-- the law's own end, with 1 on the stack, nothing written that was there before, its room as the claim has it -/
theorem lw_ret {p : Program} {l : Launch} {e : Env} {s : State} {m : MethodId} {below : List Frame} {meth : Method} {c : Code} {b : Nat} (hx : p.tables.exec = Jvm.exec) (hb : c.code = code) (hr : meth.sig.returnType = ret) (hlocks : meth.locks = false) {pc : Nat} {H : Heap} {ls : Array Slot} (hdg : decode code pc = .ok (.ireturn, 1)) : W p l e room_1 s m #[Value.ref b] below meth c H [] 600000 7302250 (lw_Z below #[Value.ref b] s) (F0 m pc ls [.int 1]) := by
  intro T hT X
  obtain ⟨fs, hret, hrun, hended, hW, hframe⟩ := X.leave (v := some (.int 1)) (hlocks := hlocks) (fun h => by rw [hr] at h; cases h)
  have hmeth' : T.vm.method? m = some meth := X.method'
  refine ⟨T.setFrames fs, ?_, .returned (some (.int 1)), hrun, hended, rfl, ⟨_, rfl⟩, hW, hframe⟩
  jvm_step X.here [X.here.top, hx, hb, hdg, hmeth', hr, ret, narrow_b1]
  (try refine ⟨rfl, ?_⟩); (try refine ⟨rfl, ?_⟩)
  first | (intro acts; rw [hret _ acts rfl rfl rfl]) | rw [hret _ _ rfl rfl rfl]
  exact Steps.refl _
/-- what holds at the law's entry: the machine, the code, the tables' words (any of lw_tbl by 'hts w (by decide +kernel)'), the script of L ints xs at the cell b, what the Statement gives of the start (any of its parts by flat_of_before) -/
def lw_At (p : Program) (s : State) (m : MethodId) (meth : Method) (c : Code) (b L : Nat) (xs : Nat → Int32) : Prop :=
  p.tables.exec = Jvm.exec ∧ c.code = code ∧ meth.sig.returnType = ret ∧ c.maxLocals = 4 ∧ s.vm.findClass R_law = some m.cls ∧ (∀ w ∈ lw_tbl, w.before #[Value.ref b] s = true) ∧ va_X b L xs s s.heap ∧ b < s.heap.size ∧ meth.locks = false ∧ (Jvm.Cond.and given_1 narrow_1).before #[Value.ref b] s = true

/-! the law's loop -/
theorem sub6 {L i : Nat} (hL : L ≤ 3072) (hi : i ≤ 100000) (h : ¬ (nn L - 6 < nn i)) : i + 6 ≤ L := by
  rcases Nat.lt_or_ge L (i + 6) with q | q
  · refine absurd (Int32.lt_iff_toInt_lt.mpr ?_) h
    have e1 : (nn L).toInt = (L : Int) := Int32.toInt_ofNat_of_lt (by omega)
    have e2 : (nn i).toInt = (i : Int) := Int32.toInt_ofNat_of_lt (by omega)
    have e3 : (6 : Int32).toInt = 6 := by decide
    rw [Int32.toInt_sub, e1, e2, e3]
    unfold Int.bmod
    dsimp only
    split <;> omega
  · exact q
/-- what the law's end needs beside -/
def Cz (meth : Method) : Prop := meth.sig.returnType = ret ∧ meth.locks = false
section
variable {p : Program} {l : Launch} {e : Env} {s : State} {m9 : MethodId} {below : List Frame} {meth : Method} {c9 : Code} {D : va_G} {A : Nat → Prop} {adK adV : Nat → Nat} {ad : Nat → Nat → Nat} {cy : Nat → Nat → ClassId} {ims pst : Nat → Option Nat} {b L N : Nat} {xs : Nat → Int32} {bs : Nat → va_W} {H : Heap} {locs : List Loc} {c0 s0 : Nat}
set_option maxHeartbeats 8000000 in
set_option maxRecDepth 100000 in
theorem law_loop (C : Cx p m9 c9 s A D adK adV ad cy ims pst b L xs) (hz : Cz meth) (hA2 : ∀ q, A q → s.heap.size ≤ q) (hc0 : c0 ≤ 500000) (hs0 : s0 ≤ 500000) : ∀ (n j : Nat) (N : Nat) (bs : Nat → va_W) (H : Heap) (locs : List Loc) (ls : Array Slot), L + 6 ≤ 6 * (j + n) → 6 * j ≤ 3072 → Top D s ad cy ims pst N bs → va_P D vwCl (bW N bs) H → va_D A (bW N bs) → va_S A s.heap H locs → lv_has ls 4 (lvL ad b (6 * j)) → W p l e room_1 s m9 #[.ref b] below meth c9 H locs (c0 + 8 * j) (s0 + 13200 * j) (lw_Z below #[.ref b] s) (F0 m9 18 ls []) := by
  intro n
  induction n with
  | zero =>
    intro j N bs H locs ls h1 hj T hP hD hS hl
    obtain ⟨S9, hA, hbA, hbl, hX, hL, hF, hE, hV⟩ := id C
    obtain ⟨hx, hb, hml, hown, hts⟩ := id S9
    refine lv_iload_n hx hb dL_law_18 rfl (lv_at hl 0 rfl) ?_
    refine lv_aload_n hx hb dL_law_19 rfl (lv_at hl 3 rfl) ?_
    refine va_slen hx hb hX hbl hbA hS dL_law_20 ?_
    refine lv_bipush (v := (6 : Int32)) hx hb dL_law_21 (by decide) ?_
    refine lv_isub hx hb dL_law_23 ?_
    refine lv_icmp_gt (tgt := 1121) hx hb dL_law_24 rfl (fun c1 => ?_) (fun c1 => ?_)
    · refine lv_iconst (v := (1 : Int32)) hx hb dL_law_1121 (by decide) ?_
      refine va_forget (fun q hq => hA2 _ (hS.2.2 q hq)) ?_
      refine W.widen (k := 600000) (n := 7302250) (by omega) (by omega) ?_
      exact lw_ret hx hb hz.1 hz.2 dL_law_1122
    · have h9 := sub6 (i := 6 * j) hL (by omega) c1
      omega
  | succ n ih =>
    intro j N bs H locs ls h1 hj T hP hD hS hl
    obtain ⟨S9, hA, hbA, hbl, hX, hL, hF, hE, hV⟩ := id C
    obtain ⟨hx, hb, hml, hown, hts⟩ := id S9
    refine lv_iload_n hx hb dL_law_18 rfl (lv_at hl 0 rfl) ?_
    refine lv_aload_n hx hb dL_law_19 rfl (lv_at hl 3 rfl) ?_
    refine va_slen hx hb hX hbl hbA hS dL_law_20 ?_
    refine lv_bipush (v := (6 : Int32)) hx hb dL_law_21 (by decide) ?_
    refine lv_isub hx hb dL_law_23 ?_
    refine lv_icmp_gt (tgt := 1121) hx hb dL_law_24 rfl (fun c1 => ?_) (fun c1 => ?_)
    · refine lv_iconst (v := (1 : Int32)) hx hb dL_law_1121 (by decide) ?_
      refine va_forget (fun q hq => hA2 _ (hS.2.2 q hq)) ?_
      refine W.widen (k := 600000) (n := 7302250) (by omega) (by omega) ?_
      exact lw_ret hx hb hz.1 hz.2 dL_law_1122
    have hi : 6 * j + 6 ≤ L := sub6 hL (by omega) c1
    have hf : c0 + 8 * j + 8 ≤ 600000 ∧ s0 + 13200 * j + 13200 ≤ 7302250 := ⟨by omega, by omega⟩
    have kk : ∀ (N : Nat) (bs : Nat → va_W) (H : Heap) (locs : List Loc), Top D s ad cy ims pst N bs → va_P D vwCl (bW N bs) H → va_D A (bW N bs) → va_S A s.heap H locs → W p l e room_1 s m9 #[.ref b] below meth c9 H locs (c0 + 8 * j + 8) (s0 + 13200 * j + 13200) (lw_Z below #[.ref b] s) (F0 m9 1115 ls []) := by
      intro N bs H locs T hP hD hS
      refine lv_iinc (v := nn (6 * (j + 1))) (lv' := lvL ad b (6 * (j + 1))) hx hb dL_law_1115 hl (k := 0) rfl (by rw [show 6 * (j + 1) = 6 * j + 6 by omega, ← nn_add]; rfl) (by decide) rfl (fun ls hl => ?_)
      refine lv_goto (tgt := 18) hx hb dL_law_1118 rfl ?_
      exact ih (j + 1) N bs H locs ls (by omega) (by omega) T hP hD hS hl
    refine lv_aload_n hx hb dL_law_27 rfl (lv_at hl 3 rfl) ?_
    refine lv_iload_n hx hb dL_law_28 rfl (lv_at hl 0 rfl) ?_
    refine va_sld hx hb hX hbl hbA hS (vp_in_nI (n := 6 * j) (by omega) (by omega)) dL_law_29 ?_
    refine lv_bipush (v := (63 : Int32)) hx hb dL_law_30 (by decide) ?_
    refine lv_iand hx hb dL_law_32 ?_
    refine lv_topi (fun v ev => ?_)
    clear ev
    by_cases hv : v.toInt < 0 ∨ 32 < v.toInt
    · refine lv_tableOut (tgt := 1115) hx hb dL_law_33 hv rfl ?_
      refine W.widen (k := c0 + 8 * j + 8) (n := s0 + 13200 * j + 13200) (by omega) (by omega) ?_
      exact kk N bs H locs T hP hD hS
    obtain ⟨k, hk, hk9⟩ : ∃ k : Nat, v.toInt = (k : Int) ∧ k ≤ 32 := ⟨v.toInt.toNat, by omega, by omega⟩
    have hk2 : (v.toInt - 0).toNat = k := by omega
    rcases (show k = 0 ∨ k = 1 ∨ k = 2 ∨ k = 3 ∨ k = 4 ∨ k = 5 ∨ k = 6 ∨ k = 7 ∨ k = 8 ∨ k = 9 ∨ k = 10 ∨ k = 11 ∨ k = 12 ∨ k = 13 ∨ k = 14 ∨ k = 15 ∨ k = 16 ∨ k = 17 ∨ k = 18 ∨ k = 19 ∨ k = 20 ∨ k = 21 ∨ k = 22 ∨ k = 23 ∨ k = 24 ∨ k = 25 ∨ k = 26 ∨ k = 27 ∨ k = 28 ∨ k = 29 ∨ k = 30 ∨ k = 31 ∨ k = 32 by omega) with rfl | rfl | rfl | rfl | rfl | rfl | rfl | rfl | rfl | rfl | rfl | rfl | rfl | rfl | rfl | rfl | rfl | rfl | rfl | rfl | rfl | rfl | rfl | rfl | rfl | rfl | rfl | rfl | rfl | rfl | rfl | rfl | rfl
    · refine lv_tableIn (off := 147) (tgt := 180) hx hb dL_law_33 (by omega) (by omega) (by rw [hk2]; rfl) rfl ?_
      exact k_feed C hi T hP hD hS hl hf kk
    · refine lv_tableIn (off := 210) (tgt := 243) hx hb dL_law_33 (by omega) (by omega) (by rw [hk2]; rfl) rfl ?_
      exact k_end C hi T hP hD hS hl hf kk
    · refine lv_tableIn (off := 233) (tgt := 266) hx hb dL_law_33 (by omega) (by omega) (by rw [hk2]; rfl) rfl ?_
      exact k_ladder C hi T hP hD hS hl hf kk
    · refine lv_tableIn (off := 246) (tgt := 279) hx hb dL_law_33 (by omega) (by omega) (by rw [hk2]; rfl) rfl ?_
      exact k_rule C hi T hP hD hS hl hf kk
    · refine lv_tableIn (off := 259) (tgt := 292) hx hb dL_law_33 (by omega) (by omega) (by rw [hk2]; rfl) rfl ?_
      exact k_force C hi T hP hD hS hl hf kk
    · refine lv_tableIn (off := 282) (tgt := 315) hx hb dL_law_33 (by omega) (by omega) (by rw [hk2]; rfl) rfl ?_
      exact k_person C hi T hP hD hS hl hf kk
    · refine lv_tableIn (off := 315) (tgt := 348) hx hb dL_law_33 (by omega) (by omega) (by rw [hk2]; rfl) rfl ?_
      exact k_rung C hi T hP hD hS hl hf kk
    · refine lv_tableIn (off := 348) (tgt := 381) hx hb dL_law_33 (by omega) (by omega) (by rw [hk2]; rfl) rfl ?_
      exact k_hour C hi T hP hD hS hl hf kk
    · refine lv_tableIn (off := 361) (tgt := 394) hx hb dL_law_33 (by omega) (by omega) (by rw [hk2]; rfl) rfl ?_
      exact k_step C hi T hP hD hS hl hf kk
    · refine lv_tableIn (off := 410) (tgt := 443) hx hb dL_law_33 (by omega) (by omega) (by rw [hk2]; rfl) rfl ?_
      exact k_pass C hi T hP hD hS hl hf kk
    · refine lv_tableIn (off := 443) (tgt := 476) hx hb dL_law_33 (by omega) (by omega) (by rw [hk2]; rfl) rfl ?_
      exact k_mend C hi T hP hD hS hl hf kk
    · refine lv_tableIn (off := 466) (tgt := 499) hx hb dL_law_33 (by omega) (by omega) (by rw [hk2]; rfl) rfl ?_
      exact k_cut C hi T hP hD hS hl hf kk
    · refine lv_tableIn (off := 489) (tgt := 522) hx hb dL_law_33 (by omega) (by omega) (by rw [hk2]; rfl) rfl ?_
      exact k_aim C hi T hP hD hS hl hf kk
    · refine lv_tableIn (off := 522) (tgt := 555) hx hb dL_law_33 (by omega) (by omega) (by rw [hk2]; rfl) rfl ?_
      exact k_undo C hi T hP hD hS hl hf kk
    · refine lv_tableIn (off := 535) (tgt := 568) hx hb dL_law_33 (by omega) (by omega) (by rw [hk2]; rfl) rfl ?_
      exact k_ahead C hi T hP hD hS hl hf kk
    · refine lv_tableIn (off := 578) (tgt := 611) hx hb dL_law_33 (by omega) (by omega) (by rw [hk2]; rfl) rfl ?_
      exact k_breaks C hi T hP hD hS hl hf kk
    · refine lv_tableIn (off := 601) (tgt := 634) hx hb dL_law_33 (by omega) (by omega) (by rw [hk2]; rfl) rfl ?_
      exact k_moves C hi T hP hD hS hl hf kk
    · refine lv_tableIn (off := 624) (tgt := 657) hx hb dL_law_33 (by omega) (by omega) (by rw [hk2]; rfl) rfl ?_
      exact k_move C hi T hP hD hS hl hf kk
    · refine lv_tableIn (off := 667) (tgt := 700) hx hb dL_law_33 (by omega) (by omega) (by rw [hk2]; rfl) rfl ?_
      exact k_squeeze C hi T hP hD hS hl hf kk
    · refine lv_tableIn (off := 690) (tgt := 723) hx hb dL_law_33 (by omega) (by omega) (by rw [hk2]; rfl) rfl ?_
      exact k_mending C hi T hP hD hS hl hf kk
    · refine lv_tableIn (off := 713) (tgt := 746) hx hb dL_law_33 (by omega) (by omega) (by rw [hk2]; rfl) rfl ?_
      exact k_capital C hi T hP hD hS hl hf kk
    · refine lv_tableIn (off := 726) (tgt := 759) hx hb dL_law_33 (by omega) (by omega) (by rw [hk2]; rfl) rfl ?_
      exact k_ballot C hi T hP hD hS hl hf kk
    · refine lv_tableIn (off := 739) (tgt := 772) hx hb dL_law_33 (by omega) (by omega) (by rw [hk2]; rfl) rfl ?_
      exact k_hold C hi T hP hD hS hl hf kk
    · refine lv_tableIn (off := 772) (tgt := 805) hx hb dL_law_33 (by omega) (by omega) (by rw [hk2]; rfl) rfl ?_
      exact k_goods C hi T hP hD hS hl hf kk
    · refine lv_tableIn (off := 805) (tgt := 838) hx hb dL_law_33 (by omega) (by omega) (by rw [hk2]; rfl) rfl ?_
      exact k_stand C hi T hP hD hS hl hf kk
    · refine lv_tableIn (off := 838) (tgt := 871) hx hb dL_law_33 (by omega) (by omega) (by rw [hk2]; rfl) rfl ?_
      exact k_note C hi T hP hD hS hl hf kk
    · refine lv_tableIn (off := 881) (tgt := 914) hx hb dL_law_33 (by omega) (by omega) (by rw [hk2]; rfl) rfl ?_
      exact k_ruled C hi T hP hD hS hl hf kk
    · refine lv_tableIn (off := 904) (tgt := 937) hx hb dL_law_33 (by omega) (by omega) (by rw [hk2]; rfl) rfl ?_
      exact k_look C hi T hP hD hS hl hf kk
    · refine lv_tableIn (off := 937) (tgt := 970) hx hb dL_law_33 (by omega) (by omega) (by rw [hk2]; rfl) rfl ?_
      exact k_seed C hi T hP hD hS hl hf kk
    · refine lv_tableIn (off := 960) (tgt := 993) hx hb dL_law_33 (by omega) (by omega) (by rw [hk2]; rfl) rfl ?_
      exact k_years C hi T hP hD hS hl hf kk
    · refine lv_tableIn (off := 1013) (tgt := 1046) hx hb dL_law_33 (by omega) (by omega) (by rw [hk2]; rfl) rfl ?_
      exact k_count C hi T hP hD hS hl hf kk
    · refine lv_tableIn (off := 1036) (tgt := 1069) hx hb dL_law_33 (by omega) (by omega) (by rw [hk2]; rfl) rfl ?_
      exact k_image C hi T hP hD hS hl hf kk
    · refine lv_tableIn (off := 1059) (tgt := 1092) hx hb dL_law_33 (by omega) (by omega) (by rw [hk2]; rfl) rfl ?_
      exact k_back C hi T hP hD hS hl hf kk
end
