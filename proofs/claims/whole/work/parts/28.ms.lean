theorem nn_shr {n k : Nat} (h : n < 2147483648) (s : Int32) (hs : (s.toBitVec.smod 32).toNat = k) : nn n >>> s = nn (n / 2 ^ k) := pk_shrN (by omega) s k hs
theorem nn_and {n k : Nat} (h : n < 2147483648) {m : Int32} (hm : m.toBitVec.toNat = 2 ^ k - 1) : nn n &&& m = nn (n % 2 ^ k) := pk_andN (by omega) k hm
theorem opC_lt (s : Nat) : opC s < 319 := by unfold opC; split <;> omega
theorem opC_33 {s : Nat} (h2 : 2 ≤ s) (h : s ≤ 14) : opC s = 33 ↔ s = 11 := by
  rcases (show s = 2 ∨ s = 3 ∨ s = 4 ∨ s = 5 ∨ s = 6 ∨ s = 7 ∨ s = 8 ∨ s = 9 ∨ s = 10 ∨ s = 11 ∨ s = 12 ∨ s = 13 ∨ s = 14 by omega) with rfl | rfl | rfl | rfl | rfl | rfl | rfl | rfl | rfl | rfl | rfl | rfl | rfl <;> decide
theorem encC_lt {i : Nat × Nat} (h : itOK i) : encC i < 2147483648 := by
  have := opC_lt i.2
  rcases h with ⟨h, h2⟩ | ⟨h, h2⟩ | ⟨h, h2, h3⟩ <;> unfold encC <;> simp only [h] <;> simp <;> omega
theorem encM_lt {i : Nat × Nat} (h : itOK i) : encM i < 2147483648 := by
  rcases h with ⟨h, h2⟩ | ⟨h, h2⟩ | ⟨h, h2, h3⟩ <;> unfold encM <;> simp only [h] <;> simp <;> omega
theorem dcC {i : Nat × Nat} (h : itOK i) : nn (encC i) >>> ((20 : Int32) &&& 31) = nn i.1 ∧ nn (encC i) &&& (1048575 : Int32) = nn (if i.1 = 2 then opC i.2 else i.2) := by
  have h1 := encC_lt h
  have h9 := opC_lt i.2
  rw [nn_shr (k := 20) h1 _ (by decide), nn_and (k := 20) h1 (by decide)]
  rcases h with ⟨h, h2⟩ | ⟨h, h2⟩ | ⟨h, h2, h3⟩ <;> unfold encC <;> simp only [h] <;> refine ⟨congrArg nn ?_, congrArg nn ?_⟩ <;> simp <;> try omega
theorem dcM {i : Nat × Nat} (h : itOK i) : nn (encM i) &&& (15 : Int32) = nn (if i.1 = 2 then i.2 else i.1) ∧ nn (encM i) >>> ((4 : Int32) &&& 31) = nn (if i.1 = 2 then 0 else i.2) := by
  have h1 := encM_lt h
  rw [nn_shr (k := 4) h1 _ (by decide), nn_and (k := 4) h1 (by decide)]
  rcases h with ⟨h, h2⟩ | ⟨h, h2⟩ | ⟨h, h2, h3⟩ <;> unfold encM <;> simp only [h] <;> refine ⟨congrArg nn ?_, congrArg nn ?_⟩ <;> simp <;> try omega
theorem k400 : (400 : Int32) = nn 400 := rfl
theorem m_recL {sign : Nat → Int32} {w : Nat → Int64} {k hi : Nat} (hk : k < 6) (hhi : hi ≤ 400) : ∀ (rest : List (Nat × Nat)) (i fuel : Nat) (f : Nat → Int64) (st st' : List Int64), i + rest.length = hi → (∀ j (h : j < rest.length), sign (400 * k + (i + j)) = nn (encM rest[j])) → (∀ x ∈ rest, itOK x) → stkR f st → runI w rest st = some st' → st.length + cntP rest ≤ 60 → rest.length < fuel → ∃ f', iter (fun (z : (Nat → Int64) × Int32 × Int32) => f12_reckons_B8 (nn hi) (nn k) sign w z.1 z.2.1 z.2.2) fuel (f, nn st.length, nn i) = some (f', nn st'.length) ∧ stkR f' st' := by
  intro rest
  induction rest with
  | nil =>
    intro i fuel f st st' hi' _ _ hR hrun _ hf
    simp only [runI, Option.some.injEq] at hrun
    subst hrun
    have hi9 : i = hi := hi'
    obtain ⟨u, rfl⟩ : ∃ u, fuel = u + 1 := ⟨fuel - 1, by omega⟩
    refine ⟨f, ?_, hR⟩
    unfold iter f12_reckons_B8
    dsimp only
    rw [if_pos (nleT (by omega) (by omega) (by omega))]
  | cons x rest ih =>
    intro i fuel f st st' hi' hs hok hR hrun hc hf
    obtain ⟨u, rfl⟩ : ∃ u, fuel = u + 1 := ⟨fuel - 1, by omega⟩
    have hi9 : i + (rest.length + 1) = hi := hi'
    have hx := hok x (List.mem_cons_self ..)
    have hsx : sign (400 * k + i) = nn (encM x) := hs 0 (by simp)
    have hd := dcM hx
    have hs' : ∀ j (h : j < rest.length), sign (400 * k + (i + 1 + j)) = nn (encM rest[j]) := fun j h => by
      have := hs (j + 1) (by simp; omega)
      rw [show i + 1 + j = i + (j + 1) by omega]; exact this
    have hok' : ∀ y ∈ rest, itOK y := fun y hy => hok y (List.mem_cons_of_mem _ hy)
    simp only [runI] at hrun
    have hcn : cntP (x :: rest) = (if x.1 = 2 then 0 else 1) + cntP rest := rfl
    rw [hcn] at hc
    have hf' : rest.length < u := by simp at hf; omega
    have hB : f12_reckons_B8 (nn hi) (nn k) sign w f (nn st.length) (nn i) = (if (nn (if x.1 = 2 then x.2 else x.1)) = 0 then (bnd2 (f12_push f (nn st.length) (Int32.toInt64 (nn (if x.1 = 2 then 0 else x.2)))) (fun z_stack_36 z_top_37 => some (.inl (z_stack_36, z_top_37, nn (i + 1))))) else (if (nn (if x.1 = 2 then x.2 else x.1)) = (1 : Int32) then (if (nn (if x.1 = 2 then 0 else x.2)) < 0 ∨ 13 ≤ Int32.toNatClampNeg (nn (if x.1 = 2 then 0 else x.2)) then none else (bnd2 (f12_push f (nn st.length) (w (Int32.toNatClampNeg (nn (if x.1 = 2 then 0 else x.2))))) (fun z_stack_32 z_top_33 => some (.inl (z_stack_32, z_top_33, nn (i + 1)))))) else (if (nn (if x.1 = 2 then x.2 else x.1)) = (11 : Int32) then (bnd2 (f12_pop f (nn st.length)) (fun r_24 z_top_25 => bnd2 (f12_push f z_top_25 ((1 : Int64) - r_24)) (fun z_stack_27 z_top_28 => some (.inl (z_stack_27, z_top_28, nn (i + 1)))))) else (bnd2 (f12_pop f (nn st.length)) (fun r_12 z_top_13 => bnd2 (f12_pop f z_top_13) (fun r_15 z_top_16 => bnd1 (f12_one (nn (if x.1 = 2 then x.2 else x.1)) r_15 r_12) (fun r_18 => bnd2 (f12_push f z_top_16 r_18) (fun z_stack_20 z_top_21 => some (.inl (z_stack_20, z_top_21, nn (i + 1))))))))))) := by
      unfold f12_reckons_B8
      rw [if_neg (nle (by omega) (by omega) (by omega)), k400, nn_mul, nn_add, nn_nat (by omega), if_neg (ng (by omega) (by omega)), lt_df, if_neg (ng (by omega) (by omega)), hsx, hd.1, hd.2]
      simp only [lt_df, nn_succ]
    unfold iter
    dsimp only
    rw [hB]
    rcases hx with ⟨h0, h2⟩ | ⟨h0, h2⟩ | ⟨h0, h2, h3⟩
    · have e1 : (if x.1 = 2 then x.2 else x.1) = 0 := by rw [h0]; rfl
      have e2 : (if x.1 = 2 then 0 else x.2) = x.2 := by rw [h0]; rfl
      have e3 : (if x.1 = 2 then 0 else 1) = 1 := by rw [h0]; rfl
      rw [e3] at hc
      rw [e1, e2, if_pos (show nn 0 = (0 : Int32) from rfl), m_push (by omega)]
      simp only [bnd2_s]
      have hst : stp w x st = some (Int32.toInt64 (nn x.2) :: st) := by unfold stp; rw [if_pos h0]
      rw [hst] at hrun
      exact ih (i + 1) u _ _ st' (by omega) hs' hok' (stkR_push hR) hrun (by simp only [List.length_cons]; omega) hf'
    · have e1 : (if x.1 = 2 then x.2 else x.1) = 1 := by rw [h0]; rfl
      have e2 : (if x.1 = 2 then 0 else x.2) = x.2 := by rw [h0]; rfl
      have e3 : (if x.1 = 2 then 0 else 1) = 1 := by rw [h0]; rfl
      rw [e3] at hc
      rw [e1, e2, if_neg (show ¬ nn 1 = (0 : Int32) by decide), if_pos (show nn 1 = (1 : Int32) from rfl), nn_nat (by omega), if_neg (ng (by omega) (by omega)), m_push (by omega)]
      simp only [bnd2_s]
      have hst : stp w x st = some (w x.2 :: st) := by unfold stp; rw [if_neg (by omega), if_pos h0]
      rw [hst] at hrun
      exact ih (i + 1) u _ _ st' (by omega) hs' hok' (stkR_push hR) hrun (by simp only [List.length_cons]; omega) hf'
    · have e1 : (if x.1 = 2 then x.2 else x.1) = x.2 := by rw [h0]; rfl
      have e3 : (if x.1 = 2 then 0 else 1) = 0 := by rw [h0]; rfl
      rw [e3] at hc
      rw [e1, if_neg (show ¬ nn x.2 = (0 : Int32) from nne (b := 0) (by omega) (by omega) (by omega)), if_neg (show ¬ nn x.2 = (1 : Int32) from nne (b := 1) (by omega) (by omega) (by omega))]
      by_cases h11 : x.2 = 11
      · rw [if_pos (show nn x.2 = (11 : Int32) by rw [h11]; rfl)]
        cases st with
        | nil => have hst : stp w x [] = none := by unfold stp; rw [if_neg (by omega), if_neg (by omega), if_pos h11]
                 rw [hst] at hrun; cases hrun
        | cons y r =>
          have hl : r.length + 1 + cntP rest ≤ 60 := by simpa only [List.length_cons, Nat.zero_add] using hc
          have hst : stp w x (y :: r) = some ((1 - y) :: r) := by unfold stp; rw [if_neg (by omega), if_neg (by omega), if_pos h11]
          rw [hst] at hrun
          rw [show nn (y :: r).length = nn (r.length + 1) from rfl, m_pop (by omega) hR]
          simp only [bnd2_s]
          rw [m_push (by omega)]
          simp only [bnd2_s]
          exact ih (i + 1) u _ _ st' (by omega) hs' hok' (stkR_push hR.2) hrun (by simp only [List.length_cons]; omega) hf'
      · rw [if_neg (show ¬ nn x.2 = (11 : Int32) from nne (b := 11) (by omega) (by omega) h11)]
        cases st with
        | nil => have hst : stp w x [] = none := by unfold stp; rw [if_neg (by omega), if_neg (by omega), if_neg h11]
                 rw [hst] at hrun; cases hrun
        | cons y r =>
          cases r with
          | nil => have hst : stp w x [y] = none := by unfold stp; rw [if_neg (by omega), if_neg (by omega), if_neg h11]
                   rw [hst] at hrun; cases hrun
          | cons z r =>
            have hl : r.length + 1 + 1 + cntP rest ≤ 60 := by simpa only [List.length_cons, Nat.zero_add] using hc
            have hst : stp w x (y :: z :: r) = some (ap x.2 z y :: r) := by unfold stp; rw [if_neg (by omega), if_neg (by omega), if_neg h11]
            rw [hst] at hrun
            rw [show nn (y :: z :: r).length = nn ((z :: r).length + 1) from rfl, m_pop (by simp only [List.length_cons]; omega) hR]
            simp only [bnd2_s]
            rw [show nn (z :: r).length = nn (r.length + 1) from rfl, m_pop (by omega) hR.2]
            simp only [bnd2_s]
            rw [m_one h2 h3 h11]
            simp only [bnd1_s]
            rw [m_push (by omega)]
            simp only [bnd2_s]
            exact ih (i + 1) u _ _ st' (by omega) hs' hok' (stkR_push hR.2.2) hrun (by simp only [List.length_cons]; omega) hf'
theorem c_resL {code : Nat → Int32} {w : Nat → Int64} {nc hi : Nat} (hhi : hi ≤ nc) (hnc : nc ≤ 400) : ∀ (rest : List (Nat × Nat)) (i fuel : Nat) (f : Nat → Int64) (st st' : List Int64), i + rest.length = hi → (∀ j (h : j < rest.length), code (i + j) = nn (encC rest[j])) → (∀ x ∈ rest, itOK x) → stkR f st → runI w rest st = some st' → st.length + cntP rest ≤ 60 → rest.length < fuel → ∃ f', iter (fun (z : (Nat → Int64) × Int32 × Int32) => f5_result_B8 (nn hi) nc code 13 w z.1 z.2.1 z.2.2) fuel (f, nn st.length, nn i) = some (f', nn st'.length) ∧ stkR f' st' := by
  intro rest
  induction rest with
  | nil =>
    intro i fuel f st st' hi' _ _ hR hrun _ hf
    simp only [runI, Option.some.injEq] at hrun
    subst hrun
    have hi9 : i = hi := hi'
    obtain ⟨u, rfl⟩ : ∃ u, fuel = u + 1 := ⟨fuel - 1, by omega⟩
    refine ⟨f, ?_, hR⟩
    unfold iter f5_result_B8
    dsimp only
    rw [if_pos (nleT (by omega) (by omega) (by omega))]
  | cons x rest ih =>
    intro i fuel f st st' hi' hs hok hR hrun hc hf
    obtain ⟨u, rfl⟩ : ∃ u, fuel = u + 1 := ⟨fuel - 1, by omega⟩
    have hi9 : i + (rest.length + 1) = hi := hi'
    have hx := hok x (List.mem_cons_self ..)
    have hsx : code i = nn (encC x) := hs 0 (by simp)
    have hd := dcC hx
    have hs' : ∀ j (h : j < rest.length), code (i + 1 + j) = nn (encC rest[j]) := fun j h => by
      have := hs (j + 1) (by simp; omega)
      rw [show i + 1 + j = i + (j + 1) by omega]; exact this
    have hok' : ∀ y ∈ rest, itOK y := fun y hy => hok y (List.mem_cons_of_mem _ hy)
    simp only [runI] at hrun
    have hcn : cntP (x :: rest) = (if x.1 = 2 then 0 else 1) + cntP rest := rfl
    rw [hcn] at hc
    have hf' : rest.length < u := by simp at hf; omega
    have hB : f5_result_B8 (nn hi) nc code 13 w f (nn st.length) (nn i) = (if nn x.1 = 0 then (bnd2 (f5_push f (nn st.length) (Int32.toInt64 (nn (if x.1 = 2 then opC x.2 else x.2)))) (fun a b => some (.inl (a, b, nn (i + 1))))) else (if nn x.1 = (1 : Int32) then (if (Int32.ofNat 13) ≤ nn (if x.1 = 2 then opC x.2 else x.2) then (f5_result_J75 f (nn st.length) (nn i) (0 : Int64)) else (if nn (if x.1 = 2 then opC x.2 else x.2) < 0 ∨ 13 ≤ Int32.toNatClampNeg (nn (if x.1 = 2 then opC x.2 else x.2)) then none else (f5_result_J75 f (nn st.length) (nn i) (w (Int32.toNatClampNeg (nn (if x.1 = 2 then opC x.2 else x.2))))))) else (if nn (if x.1 = 2 then opC x.2 else x.2) = (33 : Int32) then (bnd2 (f5_pop f (nn st.length)) (fun r_24 z_top_25 => bnd2 (f5_push f z_top_25 ((1 : Int64) - r_24)) (fun a b => some (.inl (a, b, nn (i + 1)))))) else (bnd2 (f5_pop f (nn st.length)) (fun r_12 z_top_13 => bnd2 (f5_pop f z_top_13) (fun r_15 z_top_16 => bnd1 (f5_joined (nn (if x.1 = 2 then opC x.2 else x.2)) r_15 r_12) (fun r_18 => bnd2 (f5_push f z_top_16 r_18) (fun a b => some (.inl (a, b, nn (i + 1))))))))))) := by
      unfold f5_result_B8
      rw [if_neg (nle (by omega) (by omega) (by omega)), nn_nat (by omega), if_neg (ng (by omega) (by omega)), lt_df, if_neg (ng (by omega) (by omega)), hsx, hd.1, hd.2]
      simp only [lt_df, nn_succ]
    unfold iter
    dsimp only
    rw [hB]
    rcases hx with ⟨h0, h2⟩ | ⟨h0, h2⟩ | ⟨h0, h2, h3⟩
    · have e2 : (if x.1 = 2 then opC x.2 else x.2) = x.2 := by rw [h0]; rfl
      have e3 : (if x.1 = 2 then 0 else 1) = 1 := by rw [h0]; rfl
      rw [e3] at hc
      rw [e2, h0, if_pos (show nn 0 = (0 : Int32) from rfl), c_push (by omega)]
      simp only [bnd2_s]
      have hst : stp w x st = some (Int32.toInt64 (nn x.2) :: st) := by unfold stp; rw [if_pos h0]
      rw [hst] at hrun
      exact ih (i + 1) u _ _ st' (by omega) hs' hok' (stkR_push hR) hrun (by simp only [List.length_cons]; omega) hf'
    · have e2 : (if x.1 = 2 then opC x.2 else x.2) = x.2 := by rw [h0]; rfl
      have e3 : (if x.1 = 2 then 0 else 1) = 1 := by rw [h0]; rfl
      rw [e3] at hc
      rw [e2, h0, if_neg (show ¬ nn 1 = (0 : Int32) by decide), if_pos (show nn 1 = (1 : Int32) from rfl), show Int32.ofNat 13 = nn 13 from rfl, if_neg (nle (by omega) (by omega) (by omega)), nn_nat (by omega), if_neg (ng (by omega) (by omega))]
      unfold f5_result_J75
      rw [c_push (by omega)]
      simp only [bnd2_s, lt_df, nn_succ]
      have hst : stp w x st = some (w x.2 :: st) := by unfold stp; rw [if_neg (by omega), if_pos h0]
      rw [hst] at hrun
      exact ih (i + 1) u _ _ st' (by omega) hs' hok' (stkR_push hR) hrun (by simp only [List.length_cons]; omega) hf'
    · have e1 : (if x.1 = 2 then opC x.2 else x.2) = opC x.2 := by rw [h0]; rfl
      have e3 : (if x.1 = 2 then 0 else 1) = 0 := by rw [h0]; rfl
      have hop := opC_lt x.2
      rw [e3] at hc
      rw [e1, h0, if_neg (show ¬ nn 2 = (0 : Int32) by decide), if_neg (show ¬ nn 2 = (1 : Int32) by decide)]
      by_cases h11 : x.2 = 11
      · rw [if_pos (show nn (opC x.2) = (33 : Int32) by rw [(opC_33 h2 h3).mpr h11]; rfl)]
        cases st with
        | nil => have hst : stp w x [] = none := by unfold stp; rw [if_neg (by omega), if_neg (by omega), if_pos h11]
                 rw [hst] at hrun; cases hrun
        | cons y r =>
          have hl : r.length + 1 + cntP rest ≤ 60 := by simpa only [List.length_cons, Nat.zero_add] using hc
          have hst : stp w x (y :: r) = some ((1 - y) :: r) := by unfold stp; rw [if_neg (by omega), if_neg (by omega), if_pos h11]
          rw [hst] at hrun
          rw [show nn (y :: r).length = nn (r.length + 1) from rfl, c_pop (by omega) hR]
          simp only [bnd2_s]
          rw [c_push (by omega)]
          simp only [bnd2_s]
          exact ih (i + 1) u _ _ st' (by omega) hs' hok' (stkR_push hR.2) hrun (by simp only [List.length_cons]; omega) hf'
      · rw [if_neg (show ¬ nn (opC x.2) = (33 : Int32) from nne (b := 33) (by omega) (by omega) (fun h => h11 ((opC_33 h2 h3).mp h)))]
        cases st with
        | nil => have hst : stp w x [] = none := by unfold stp; rw [if_neg (by omega), if_neg (by omega), if_neg h11]
                 rw [hst] at hrun; cases hrun
        | cons y r =>
          cases r with
          | nil => have hst : stp w x [y] = none := by unfold stp; rw [if_neg (by omega), if_neg (by omega), if_neg h11]
                   rw [hst] at hrun; cases hrun
          | cons z r =>
            have hl : r.length + 1 + 1 + cntP rest ≤ 60 := by simpa only [List.length_cons, Nat.zero_add] using hc
            have hst : stp w x (y :: z :: r) = some (ap x.2 z y :: r) := by unfold stp; rw [if_neg (by omega), if_neg (by omega), if_neg h11]
            rw [hst] at hrun
            rw [show nn (y :: z :: r).length = nn ((z :: r).length + 1) from rfl, c_pop (by simp only [List.length_cons]; omega) hR]
            simp only [bnd2_s]
            rw [show nn (z :: r).length = nn (r.length + 1) from rfl, c_pop (by omega) hR.2]
            simp only [bnd2_s]
            rw [c_joined h2 h3 h11]
            simp only [bnd1_s]
            rw [c_push (by omega)]
            simp only [bnd2_s]
            exact ih (i + 1) u _ _ st' (by omega) hs' hok' (stkR_push hR.2.2) hrun (by simp only [List.length_cons]; omega) hf'
/-! a row of clauses, each a sum and a test (maybe empty) -/
def flt (cls : List (List (Nat × Nat) × List (Nat × Nat))) : List (Nat × Nat) := cls.flatMap (fun x => x.1 ++ x.2)
def off (cls : List (List (Nat × Nat) × List (Nat × Nat))) (c : Nat) : Nat := (flt (cls.take c)).length
def RuC (cls : List (List (Nat × Nat) × List (Nat × Nat))) (nc : Nat) (code : Nat → Int32) (ns : Nat) (sumEnd : Nat → Int32) (nt : Nat) (testEnd : Nat → Int32) : Prop :=
  nc = (flt cls).length ∧ ns = cls.length ∧ nt = cls.length ∧ (∀ i (h : i < (flt cls).length), code i = nn (encC (flt cls)[i])) ∧ ∀ c (h : c < cls.length), sumEnd c = nn (off cls c + cls[c].1.length) ∧ testEnd c = nn (off cls (c + 1))
def RuM (cls : List (List (Nat × Nat) × List (Nat × Nat))) (sign clause clauses : Nat → Int32) (k : Nat) : Prop :=
  clauses k = nn cls.length ∧ (∀ i (h : i < (flt cls).length), sign (400 * k + i) = nn (encM (flt cls)[i])) ∧ ∀ c (h : c < cls.length), clause (48 * k + 4 * c) = nn (off cls c) ∧ clause (48 * k + 4 * c + 1) = nn (off cls c + cls[c].1.length) ∧ clause (48 * k + 4 * c + 2) = (if cls[c].2 = [] then -1 else nn (off cls c + cls[c].1.length)) ∧ clause (48 * k + 4 * c + 3) = nn (off cls (c + 1))
def RuOK (cls : List (List (Nat × Nat) × List (Nat × Nat))) : Prop := cls.length ≤ 12 ∧ (flt cls).length ≤ 400 ∧ cntP (flt cls) ≤ 60 ∧ ∀ c ∈ cls, SgS c.1 ∧ (c.2 = [] ∨ SgT c.2)
