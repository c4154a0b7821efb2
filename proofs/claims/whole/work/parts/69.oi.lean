/-! squeeze: the class's rounds -/
section
variable {S : Nat → Int32} {R P lo hi F dp n : Nat} {L : List EN}
variable {set rungs people hour broken : Int32} {wrung grip want slips worn room strength weight told digit above below : Nat → Int32}
theorem c_sq1 {from_ queue rung crowd : Nat → Int32} {tail : Int32} (hI : IV R P S) (hR0 : 0 < R) (hW : RWd S hour broken wrung grip want slips worn) (hL : RLd R P S rungs people room strength weight told) (hKB : KB R P S digit above below) (hset : ∀ p, p < P → S (46 + 4 * p) < 0 → ((set >>> (nn p &&& 31)) &&& 1) = 0) (hG : GL R P S L) (hF : F ≤ L.length) (hA : CA R P L from_ queue tail) (hng : ∀ (j : Nat) (y : EN), j < F → L[j]? = some y → glF S set y.1 P = false) :
    ∃ a, iter (fun (z : (Nat → Int32) × (Nat → Int32) × Int32 × (Nat → Int32) × (Nat → Int32) × Int32) => f4_fewestPasses_B33 6561 wrung rungs people set want 6561 digit above below room (nn dp) z.1 z.2.1 z.2.2.1 z.2.2.2.1 z.2.2.2.2.1 z.2.2.2.2.2) FUEL (from_, queue, tail, rung, crowd, nn F) = some a ∧
      ((∃ (n : Nat) (x : EN) (f1 q1 : Nat → Int32) (t1 : Int32) (rg1 cr1 : Nat → Int32), (sq S P 0 2 F dp L n)[F + n]? = some x ∧ glF S set x.1 P = true ∧ (∀ (j : Nat) (y : EN), j < F + n → (sq S P 0 2 F dp L n)[j]? = some y → glF S set y.1 P = false) ∧ a = .inl (nn dp, set, f1, q1, t1, digit, rg1, cr1, above, below)) ∨
       (∃ (n : Nat) (f1 q1 : Nat → Int32) (t1 : Int32) (rg1 cr1 : Nat → Int32), CA R P (sq S P 0 2 F dp L n) f1 q1 t1 ∧ (sq S P 0 2 F dp L n).length = F + n ∧ (∀ (j : Nat) (y : EN), j < F + n → (sq S P 0 2 F dp L n)[j]? = some y → glF S set y.1 P = false) ∧ a = .inr (f1, q1, t1, rg1, cr1))) := by
  have hR9 := hI.1.1
  have hP4 := hI.1.2.1
  have hF6 := (hG.len hR9 hP4).2
  refine iter_wfF (B := fun (z : (Nat → Int32) × (Nat → Int32) × Int32 × (Nat → Int32) × (Nat → Int32) × Int32) => f4_fewestPasses_B33 6561 wrung rungs people set want 6561 digit above below room (nn dp) z.1 z.2.1 z.2.2.1 z.2.2.2.1 z.2.2.2.2.1 z.2.2.2.2.2) (s := (from_, queue, tail, rung, crowd, nn F)) (n := 6562)
    (I := fun m z => ∃ i, m + i = 6562 ∧ z.2.2.2.2.2 = nn (F + i) ∧ CA R P (sq S P 0 2 F dp L i) z.1 z.2.1 z.2.2.1 ∧ F + i ≤ (sq S P 0 2 F dp L i).length ∧ ∀ (j : Nat) (y : EN), j < F + i → (sq S P 0 2 F dp L i)[j]? = some y → glF S set y.1 P = false)
    (Po := fun a => (∃ (n : Nat) (x : EN) (f1 q1 : Nat → Int32) (t1 : Int32) (rg1 cr1 : Nat → Int32), (sq S P 0 2 F dp L n)[F + n]? = some x ∧ glF S set x.1 P = true ∧ (∀ (j : Nat) (y : EN), j < F + n → (sq S P 0 2 F dp L n)[j]? = some y → glF S set y.1 P = false) ∧ a = .inl (nn dp, set, f1, q1, t1, digit, rg1, cr1, above, below)) ∨
       (∃ (n : Nat) (f1 q1 : Nat → Int32) (t1 : Int32) (rg1 cr1 : Nat → Int32), CA R P (sq S P 0 2 F dp L n) f1 q1 t1 ∧ (sq S P 0 2 F dp L n).length = F + n ∧ (∀ (j : Nat) (y : EN), j < F + n → (sq S P 0 2 F dp L n)[j]? = some y → glF S set y.1 P = false) ∧ a = .inr (f1, q1, t1, rg1, cr1)))
    ⟨0, rfl, rfl, hA, hF, hng⟩ (by omega) ?_
  rintro m ⟨f, q, t, rg, cr, v⟩ ⟨i, hm, rfl, hA, hi, hng⟩
  dsimp only at hA hng ⊢
  unfold f4_fewestPasses_B33
  have hG2 : GL R P S (sq S P 0 2 F dp L i) := sq_GL hI hG i
  have hlen := hG2.len hR9 hP4
  have e6 : Int32.ofNat 6561 = nn 6561 := rfl
  rw [hA.1, e6]
  by_cases hil : F + i < (sq S P 0 2 F dp L i).length
  · obtain ⟨x, hx⟩ : ∃ x, (sq S P 0 2 F dp L i)[F + i]? = some x := ⟨_, List.getElem?_eq_getElem hil⟩
    have hv := hG2.2 x (List.mem_of_getElem? hx)
    have hqi := (hA.2.1 _ x hx).1
    have hci : ¬ (nn (F + i) < 0 ∨ 6561 ≤ F + i) := ng (by omega) (by omega)
    obtain ⟨rg1, cr1, u1, u2⟩ := c_unfold (rung := rg) (crowd := cr) hI hR0 hW hL hv
    have hth := c_isThere (set := set) hI hW hL.2.1 hv u2 hset
    rw [if_neg (nle (by omega) (by omega) (by omega)), if_neg (nle (by omega) (by omega) (by omega)), nn_nat (show F + i < 2147483648 by omega), if_neg hci, hqi]
    rw [show f4_unfold rg cr wrung rungs people (nn (cdR R P x)) = _ from u1, bnd2_s, hth, bnd1_s]
    by_cases hg : glF S set x.1 P = true
    · right
      rw [if_pos hg, if_neg (show ¬ (1 : Int32) = 0 by decide)]
      exact ⟨_, rfl, Or.inl ⟨i, x, f, q, nn (sq S P 0 2 F dp L i).length, rg1, cr1, hx, hg, hng, rfl⟩⟩
    · left
      rw [if_neg hg, if_pos rfl]
      obtain ⟨⟨f9, q9, t9⟩, e9, hA9⟩ := iter_wfF (B := fun (z : (Nat → Int32) × (Nat → Int32) × Int32 × Int32) => f4_fewestPasses_B75 people (nn (F + i)) 6561 6561 digit rg1 cr1 above below wrung room z.1 z.2.1 z.2.2.1 z.2.2.2) (s := (f, q, nn (sq S P 0 2 F dp L i).length, (0 : Int32))) (n := P)
        (I := fun m z => ∃ p, m + p = P ∧ z.2.2.2 = nn p ∧ CA R P (exM S P 0 2 x.1 (F + i) dp (sq S P 0 2 F dp L i) (8 * p)) z.1 z.2.1 z.2.2.1)
        (Po := fun z => CA R P (exM S P 0 2 x.1 (F + i) dp (sq S P 0 2 F dp L i) (8 * P)) z.1 z.2.1 z.2.2)
        ⟨0, rfl, rfl, by rw [← hA.1]; exact hA⟩ (by omega)
        (by
          rintro m2 ⟨f2, q2, t2, v2⟩ ⟨p, hm2, rfl, hA2⟩
          dsimp only at hA2 ⊢
          unfold f4_fewestPasses_B75
          rw [hL.2.1]
          have qk : ∀ (n : Nat) (f3 q3 : Nat → Int32) (t3 : Int32), CA R P (exM S P 0 2 x.1 (F + i) dp (sq S P 0 2 F dp L i) n) f3 q3 t3 → q3 (F + i) = nn (cdR R P x) := by
            intro n f3 q3 t3 hA3
            obtain ⟨T, hT⟩ := exM_pre (S := S) (P := P) (lo := 0) (hi := 2) (d := x.1) (i := F + i) (dp := dp) (L := sq S P 0 2 F dp L i) n
            exact (hA3.2.1 _ x (pre_at hT hx)).1
          by_cases hp : p < P
          · left
            obtain ⟨f3, q3, t3, j1, j2⟩ := c_trySteps (lo := 0) (hi := 2) (i := F + i) (dp := dp) hI hW hL hG2 hv hp rfl (by omega) hA2 hx rfl u2 hKB
            have hgap : exM S P 0 2 x.1 (F + i) dp (sq S P 0 2 F dp L i) (8 * (p + 1)) = exM S P 0 2 x.1 (F + i) dp (sq S P 0 2 F dp L i) (8 * p + 2) := exM_gap' (by omega) (fun q h1 h2 => Or.inl (by omega))
            rw [← hgap] at j2
            rw [if_neg (nle (by omega) (by omega) (by omega)), nn_nat (show F + i < 2147483648 by omega), if_neg hci, qk _ _ _ _ hA2, j1, bnd3_s, lt_df, nn_succ]
            exact ⟨_, m2 - 1, rfl, by omega, p + 1, by omega, rfl, j2⟩
          · right
            obtain rfl : p = P := by omega
            rw [if_pos (Int32.le_refl _)]
            exact ⟨_, rfl, hA2⟩)
      have h32 : exM S P 0 2 x.1 (F + i) dp (sq S P 0 2 F dp L i) 32 = exM S P 0 2 x.1 (F + i) dp (sq S P 0 2 F dp L i) (8 * P) := exM_gap' (m := 8 * P) (by omega) (fun q h1 h2 => Or.inr (suc_far (by omega)))
      rw [← h32, ← sq_s hx] at hA9
      rw [e9, bnd3_s, lt_df, nn_succ]
      obtain ⟨T, hT⟩ := sq_pre1 (S := S) (P := P) (lo := 0) (hi := 2) (F := F) (dp := dp) (L := L) (n := i)
      refine ⟨_, m - 1, rfl, by omega, i + 1, by omega, rfl, hA9, by rw [hT, List.length_append]; omega, fun j y hj hy => ?_⟩
      have hy2 := pre_bk hT (show j < (sq S P 0 2 F dp L i).length by omega) hy
      by_cases e : j = F + i
      · subst e
        rw [hx] at hy2
        obtain rfl := Option.some.inj hy2
        exact Bool.eq_false_iff.mpr hg
      · exact hng j y (by omega) hy2
  · right
    have : (sq S P 0 2 F dp L i).length = F + i := by omega
    rw [if_pos (nleT (by omega) (by omega) (by omega))]
    refine ⟨_, rfl, Or.inr ⟨i, f, q, nn (sq S P 0 2 F dp L i).length, rg, cr, ?_, this, hng, rfl⟩⟩
    rw [← hA.1]; exact hA
theorem c_sq2 {from_ queue rung crowd : Nat → Int32} {tail : Int32} {T : Nat} (hI : IV R P S) (hR0 : 0 < R) (hW : RWd S hour broken wrung grip want slips worn) (hL : RLd R P S rungs people room strength weight told) (hKB : KB R P S digit above below) (hG : GL R P S L) (hF : F ≤ T) (hT : T = L.length) (hA : CA R P L from_ queue tail) :
    ∃ f1 q1 t1 rg1 cr1, iter (fun (z : (Nat → Int32) × (Nat → Int32) × Int32 × (Nat → Int32) × (Nat → Int32) × Int32) => f4_fewestPasses_B124 (nn T) 6561 wrung rungs people 6561 digit above below z.1 z.2.1 z.2.2.1 z.2.2.2.1 z.2.2.2.2.1 z.2.2.2.2.2) FUEL (from_, queue, tail, rung, crowd, nn F) = some (f1, q1, t1, rg1, cr1) ∧ CA R P (sq S P 2 8 F dp L (T - F)) f1 q1 t1 := by
  have hR9 := hI.1.1
  have hP4 := hI.1.2.1
  have hF6 := (hG.len hR9 hP4).2
  obtain ⟨⟨f9, q9, t9, rg9, cr9⟩, e9, hA9⟩ := iter_wfF (B := fun (z : (Nat → Int32) × (Nat → Int32) × Int32 × (Nat → Int32) × (Nat → Int32) × Int32) => f4_fewestPasses_B124 (nn T) 6561 wrung rungs people 6561 digit above below z.1 z.2.1 z.2.2.1 z.2.2.2.1 z.2.2.2.2.1 z.2.2.2.2.2) (s := (from_, queue, tail, rung, crowd, nn F)) (n := T - F)
    (I := fun m z => ∃ i, m + i = T - F ∧ z.2.2.2.2.2 = nn (F + i) ∧ CA R P (sq S P 2 8 F dp L i) z.1 z.2.1 z.2.2.1)
    (Po := fun z => CA R P (sq S P 2 8 F dp L (T - F)) z.1 z.2.1 z.2.2.1)
    ⟨0, rfl, rfl, hA⟩ (by omega)
    (by
      rintro m ⟨f, q, t, rg, cr, v⟩ ⟨i, hm, rfl, hA⟩
      dsimp only at hA ⊢
      unfold f4_fewestPasses_B124
      have hG2 : GL R P S (sq S P 2 8 F dp L i) := sq_GL hI hG i
      have hlen := hG2.len hR9 hP4
      have e6 : Int32.ofNat 6561 = nn 6561 := rfl
      rw [e6]
      by_cases hil : F + i < T
      · left
        obtain ⟨T2, hT2⟩ := sq_pre0 (S := S) (P := P) (lo := 2) (hi := 8) (F := F) (dp := dp) (L := L) i
        have hT2' : sq S P 2 8 F dp L i = L ++ T2 := hT2
        obtain ⟨x, hx⟩ : ∃ x, (sq S P 2 8 F dp L i)[F + i]? = some x := ⟨_, pre_at hT2' (List.getElem?_eq_getElem (show F + i < L.length by omega))⟩
        have hv := hG2.2 x (List.mem_of_getElem? hx)
        have hqi := (hA.2.1 _ x hx).1
        have hci : ¬ (nn (F + i) < 0 ∨ 6561 ≤ F + i) := ng (by omega) (by omega)
        obtain ⟨rg1, cr1, u1, u2⟩ := c_unfold (rung := rg) (crowd := cr) hI hR0 hW hL hv
        rw [if_neg (nle (by omega) (by omega) (by omega)), if_neg (nle (by omega) (by omega) (by omega)), nn_nat (show F + i < 2147483648 by omega), if_neg hci, hqi]
        rw [show f4_unfold rg cr wrung rungs people (nn (cdR R P x)) = _ from u1, bnd2_s]
        obtain ⟨⟨f9, q9, t9⟩, e9, hA9⟩ := iter_wfF (B := fun (z : (Nat → Int32) × (Nat → Int32) × Int32 × Int32) => f4_fewestPasses_B155 people (nn (F + i)) 6561 6561 digit rg1 above below wrung z.1 z.2.1 z.2.2.1 z.2.2.2) (s := (f, q, t, (0 : Int32))) (n := P)
          (I := fun m z => ∃ p, m + p = P ∧ z.2.2.2 = nn p ∧ CA R P (exM S P 2 8 x.1 (F + i) dp (sq S P 2 8 F dp L i) (8 * p)) z.1 z.2.1 z.2.2.1)
          (Po := fun z => CA R P (exM S P 2 8 x.1 (F + i) dp (sq S P 2 8 F dp L i) (8 * P)) z.1 z.2.1 z.2.2)
          ⟨0, rfl, rfl, hA⟩ (by omega)
          (by
            rintro m2 ⟨f2, q2, t2, v2⟩ ⟨p, hm2, rfl, hA2⟩
            dsimp only at hA2 ⊢
            unfold f4_fewestPasses_B155
            rw [hL.2.1]
            have qk : ∀ (n : Nat) (f3 q3 : Nat → Int32) (t3 : Int32), CA R P (exM S P 2 8 x.1 (F + i) dp (sq S P 2 8 F dp L i) n) f3 q3 t3 → q3 (F + i) = nn (cdR R P x) := by
              intro n f3 q3 t3 hA3
              obtain ⟨T, hT⟩ := exM_pre (S := S) (P := P) (lo := 2) (hi := 8) (d := x.1) (i := F + i) (dp := dp) (L := sq S P 2 8 F dp L i) n
              exact (hA3.2.1 _ x (pre_at hT hx)).1
            by_cases hp : p < P
            · left
              have hgap : exM S P 2 8 x.1 (F + i) dp (sq S P 2 8 F dp L i) (8 * p + 2) = exM S P 2 8 x.1 (F + i) dp (sq S P 2 8 F dp L i) (8 * p) := exM_gap' (by omega) (fun q h1 h2 => Or.inl (by omega))
              have hq2 := qk _ _ _ _ hA2
              rw [← hgap] at hA2
              obtain ⟨f4, q4, t4, k1, k2⟩ := c_tryPasses (lo := 2) (hi := 8) (i := F + i) (dp := dp) hI hW hL hG2 hv hp (by omega) rfl hA2 hx rfl u2 hKB
              rw [hL.2.1] at k1
              rw [if_neg (nle (by omega) (by omega) (by omega)), nn_nat (show F + i < 2147483648 by omega), if_neg hci, hq2, k1, bnd3_s, lt_df, nn_succ]
              exact ⟨_, m2 - 1, rfl, by omega, p + 1, by omega, rfl, k2⟩
            · right
              obtain rfl : p = P := by omega
              rw [if_pos (Int32.le_refl _)]
              exact ⟨_, rfl, hA2⟩)
        have h32 : exM S P 2 8 x.1 (F + i) dp (sq S P 2 8 F dp L i) 32 = exM S P 2 8 x.1 (F + i) dp (sq S P 2 8 F dp L i) (8 * P) := exM_gap' (m := 8 * P) (by omega) (fun q h1 h2 => Or.inr (suc_far (by omega)))
        rw [← h32, ← sq_s hx] at hA9
        rw [e9, bnd3_s, lt_df, nn_succ]
        exact ⟨_, m - 1, rfl, by omega, i + 1, by omega, rfl, hA9⟩
      · right
        have hi : i = T - F := by omega
        rw [if_pos (nleT (by omega) (by omega) (by omega))]
        exact ⟨_, rfl, by rw [← hi]; exact hA⟩)
  exact ⟨f9, q9, t9, rg9, cr9, e9, hA9⟩
/-- the first goal, round by round -/
def FG (S : Nat → Int32) (P : Nat) (set : Int32) (k n : Nat) (x : EN) : Prop := (sq S P 0 2 (lvl S P k).2 k (lvl S P k).1 n)[(lvl S P k).2 + n]? = some x ∧ glF S set x.1 P = true ∧ ∀ (j : Nat) (y : EN), j < (lvl S P k).2 + n → (sq S P 0 2 (lvl S P k).2 k (lvl S P k).1 n)[j]? = some y → glF S set y.1 P = false
def NS (S : Nat → Int32) (P : Nat) (set : Int32) : Prop := ∀ (K : Nat) (y : EN), (lvl S P K).2 = (lvl S P K).1.length → y ∈ (lvl S P K).1 → glF S set y.1 P = false
theorem FG.at {K k : Nat} {x : EN} (hI : IV R P S) (hR : 0 < R) (hK : (lvl S P K).2 = (lvl S P K).1.length) (h : FG S P set k n x) : (lvl S P K).1[(lvl S P k).2 + n]? = some x ∧ (∀ (j : Nat) (y : EN), j < (lvl S P k).2 + n → (lvl S P K).1[j]? = some y → glF S set y.1 P = false) ∧ x.2.2.2 = k := by
  have hR9 := hI.1.1
  have hP4 := hI.1.2.1
  obtain ⟨h1, h2, h3⟩ := h
  obtain ⟨l1, l2, l3, l4, l5, l6⟩ := lvl_LI hI hR k
  have hil := (List.getElem?_eq_some_iff.mp h1).1
  have hlen := (sq_GL hI l1 n (lo := 0) (hi := 2) (F := (lvl S P k).2) (dp := k)).len hR9 hP4
  have hk : k < K := by
    refine Nat.lt_of_not_le (fun c => ?_)
    have he := lvl_fix hK (k - K)
    rw [show K + (k - K) = k by omega] at he
    have hfx := sq_fix (S := S) (P := P) (lo := 0) (hi := 2) (F := (lvl S P k).2) (dp := k) (L := (lvl S P k).1) (n := 0) (by rw [he, hK]; exact Nat.le_refl _) n
    rw [Nat.zero_add] at hfx
    rw [hfx] at hil
    have : (lvl S P k).1.length ≤ (lvl S P k).2 := by rw [he, hK]; exact Nat.le_refl _
    have h9 : (lvl S P k).2 + n < (lvl S P k).1.length := hil
    omega
  obtain ⟨T1, hT1⟩ := sq_pre (S := S) (P := P) (lo := 0) (hi := 2) (F := (lvl S P k).2) (dp := k) (L := (lvl S P k).1) (show n ≤ 6562 by omega)
  have hT1' : lA S P k = _ := hT1
  obtain ⟨T2, hT2⟩ := sq_pre0 (S := S) (P := P) (lo := 2) (hi := 8) (F := (lvl S P k).2) (dp := k + 1) (L := lA S P k) ((lA S P k).length - (lvl S P k).2)
  have hT2' : (lvl S P (k + 1)).1 = lA S P k ++ T2 := lvl_1.trans hT2
  obtain ⟨T3, hT3⟩ := lvl_pre (S := S) (P := P) (show k + 1 ≤ K by omega)
  have hall : (lvl S P K).1 = sq S P 0 2 (lvl S P k).2 k (lvl S P k).1 n ++ (T1 ++ (T2 ++ T3)) := by
    rw [hT3, hT2', hT1', List.append_assoc, List.append_assoc]
  refine ⟨pre_at hall h1, fun j y hj hy => h3 j y hj (pre_bk hall (by omega) hy), ?_⟩
  by_cases c : (lvl S P k).1.length ≤ (lvl S P k).2 + n
  · exact sq_dep hI l1 h1 c
  · obtain ⟨T4, hT4⟩ := sq_pre0 (S := S) (P := P) (lo := 0) (hi := 2) (F := (lvl S P k).2) (dp := k) (L := (lvl S P k).1) n
    have hT4' : sq S P 0 2 (lvl S P k).2 k (lvl S P k).1 n = (lvl S P k).1 ++ T4 := hT4
    exact l5 _ x (by omega) (pre_bk hT4' (by omega) h1)
theorem c_rounds {f0 q0 rung crowd : Nat → Int32} {t0 : Int32} (hI : IV R P S) (hR0 : 0 < R) (hW : RWd S hour broken wrung grip want slips worn) (hL : RLd R P S rungs people room strength weight told) (hKB : KB R P S digit above below) (hset : ∀ p, p < P → S (46 + 4 * p) < 0 → ((set >>> (nn p &&& 31)) &&& 1) = 0) (hA : CA R P [e0 S] f0 q0 t0) :
    ∃ a, iter (fun (z : (Nat → Int32) × (Nat → Int32) × Int32 × (Nat → Int32) × (Nat → Int32) × Int32 × Int32) => f4_fewestPasses_B15 6561 wrung rungs people set want 6561 digit above below room z.1 z.2.1 z.2.2.1 z.2.2.2.1 z.2.2.2.2.1 z.2.2.2.2.2.1 z.2.2.2.2.2.2) FUEL (f0, q0, t0, rung, crowd, (0 : Int32), (0 : Int32)) = some a ∧
      ((∃ (k n : Nat) (x : EN) (f1 q1 : Nat → Int32) (t1 : Int32) (rg1 cr1 : Nat → Int32), FG S P set k n x ∧ a = .inl (nn k, set, f1, q1, t1, digit, rg1, cr1, above, below)) ∨
       (∃ (f1 q1 : Nat → Int32) (t1 : Int32) (rg1 cr1 : Nat → Int32), NS S P set ∧ a = .inr (f1, q1, t1, rg1, cr1))) := by
  have hR9 := hI.1.1
  have hP4 := hI.1.2.1
  refine iter_wfF (B := fun (z : (Nat → Int32) × (Nat → Int32) × Int32 × (Nat → Int32) × (Nat → Int32) × Int32 × Int32) => f4_fewestPasses_B15 6561 wrung rungs people set want 6561 digit above below room z.1 z.2.1 z.2.2.1 z.2.2.2.1 z.2.2.2.2.1 z.2.2.2.2.2.1 z.2.2.2.2.2.2) (s := (f0, q0, t0, rung, crowd, (0 : Int32), (0 : Int32))) (n := 6562)
    (I := fun m z => ∃ k, m + (lvl S P k).2 = 6562 ∧ z.2.2.2.2.2.1 = nn (lvl S P k).2 ∧ z.2.2.2.2.2.2 = nn k ∧ CA R P (lvl S P k).1 z.1 z.2.1 z.2.2.1 ∧ k ≤ (lvl S P k).2 ∧ ∀ (j : Nat) (y : EN), j < (lvl S P k).2 → (lvl S P k).1[j]? = some y → glF S set y.1 P = false)
    (Po := fun a => (∃ (k n : Nat) (x : EN) (f1 q1 : Nat → Int32) (t1 : Int32) (rg1 cr1 : Nat → Int32), FG S P set k n x ∧ a = .inl (nn k, set, f1, q1, t1, digit, rg1, cr1, above, below)) ∨
       (∃ (f1 q1 : Nat → Int32) (t1 : Int32) (rg1 cr1 : Nat → Int32), NS S P set ∧ a = .inr (f1, q1, t1, rg1, cr1)))
    ⟨0, rfl, rfl, rfl, hA, Nat.le_refl _, fun j y hj => absurd hj (Nat.not_lt_zero _)⟩ (by omega) ?_
  rintro m ⟨f, q, t, rg, cr, v, w⟩ ⟨k, hm, rfl, rfl, hA, hk, hng⟩
  dsimp only at hA ⊢
  unfold f4_fewestPasses_B15
  obtain ⟨h1, h2, h3, h4, h5, h6⟩ := lvl_LI hI hR0 k
  have hlen := h1.len hR9 hP4
  rw [hA.1]
  by_cases hil : (lvl S P k).2 < (lvl S P k).1.length
  · obtain ⟨a, a1, a2⟩ := c_sq1 (dp := k) (rung := rg) (crowd := cr) hI hR0 hW hL hKB hset h1 h2 hA hng
    rw [hA.1] at a1
    rw [if_neg (show ¬ (6561 : Int32) ≤ nn k from nle (a := 6561) (by omega) (by omega) (by omega)), if_neg (nle (by omega) (by omega) (by omega)), a1]
    rcases a2 with ⟨n, x, f1, q1, t1, rg1, cr1, b1, b2, b3, rfl⟩ | ⟨n, f1, q1, t1, rg1, cr1, b1, b2, b3, rfl⟩
    · right
      rw [bndS5_l]
      exact ⟨_, rfl, Or.inl ⟨k, n, x, f1, q1, t1, rg1, cr1, ⟨b1, b2, b3⟩, rfl⟩⟩
    · left
      have hGn : GL R P S (sq S P 0 2 (lvl S P k).2 k (lvl S P k).1 n) := sq_GL hI h1 n
      have hln := hGn.len hR9 hP4
      have hAn : lA S P k = sq S P 0 2 (lvl S P k).2 k (lvl S P k).1 n := by
        have := sq_fix (S := S) (P := P) (lo := 0) (hi := 2) (F := (lvl S P k).2) (dp := k) (L := (lvl S P k).1) (n := n) (by omega) (6562 - n)
        rw [show n + (6562 - n) = 6562 by omega] at this
        exact this
      rw [← hAn] at b1 b2 b3 hGn hln
      obtain ⟨T, hT⟩ := sq_pre0 (S := S) (P := P) (lo := 0) (hi := 2) (F := (lvl S P k).2) (dp := k) (L := (lvl S P k).1) 6562
      have hT' : lA S P k = (lvl S P k).1 ++ T := hT
      have hl1 : (lA S P k).length = (lvl S P k).1.length + T.length := by rw [hT', List.length_append]
      obtain ⟨f2, q2, t2, rg2, cr2, d1, d2⟩ := c_sq2 (dp := k + 1) (F := (lvl S P k).2) (T := (lA S P k).length) (rung := rg1) (crowd := cr1) hI hR0 hW hL hKB hGn (by omega) rfl b1
      rw [bndS5_r]
      rw [b1.1] at d1 ⊢
      rw [d1, bnd5_s, lt_df, nn_succ]
      refine ⟨_, 6562 - (lA S P k).length, rfl, by omega, k + 1, by rw [lvl_2]; omega, by rw [lvl_2], rfl, by rw [lvl_1]; exact d2, by rw [lvl_2]; omega, fun j y hj hy => ?_⟩
      obtain ⟨T2, hT2⟩ := sq_pre0 (S := S) (P := P) (lo := 2) (hi := 8) (F := (lvl S P k).2) (dp := k + 1) (L := lA S P k) ((lA S P k).length - (lvl S P k).2)
      have hT2' : (lvl S P (k + 1)).1 = lA S P k ++ T2 := lvl_1.trans hT2
      have hj' : j < (lA S P k).length := by rw [lvl_2] at hj; exact hj
      exact b3 j y (by omega) (pre_bk hT2' hj' hy)
  · right
    have he : (lvl S P k).2 = (lvl S P k).1.length := by omega
    have hNS : NS S P set := by
      intro K y hK hy
      have hKk : (lvl S P K).1 = (lvl S P k).1 := by
        rcases Nat.le_total K k with c | c
        · have := lvl_fix hK (k - K)
          rw [show K + (k - K) = k by omega] at this
          rw [this]
        · have := lvl_fix he (K - k)
          rw [show k + (K - k) = K by omega] at this
          rw [this]
      rw [hKk] at hy
      obtain ⟨j, hj⟩ := List.getElem?_of_mem hy
      exact hng j y (by have := (List.getElem?_eq_some_iff.mp hj).1; omega) hj
    by_cases c : (6561 : Int32) ≤ nn k
    · rw [if_pos c]
      exact ⟨_, rfl, Or.inr ⟨f, q, _, rg, cr, hNS, rfl⟩⟩
    · rw [if_neg c, if_pos (nleT (by omega) (by omega) (by omega))]
      exact ⟨_, rfl, Or.inr ⟨f, q, _, rg, cr, hNS, rfl⟩⟩
theorem c_fewestP {a n : Nat} {pset t0 : Int32} {f0 q0 rung crowd : Nat → Int32} (hI : IV R P S) (hR0 : 0 < R) (hW : RWd S hour broken wrung grip want slips worn) (hL : RLd R P S rungs people room strength weight told) (ha : a < 2 ^ P) (hn : n = 6561 ∨ ¬ ∀ p, p < P → S (46 + 4 * p) < 0 → ((nn a >>> (nn p &&& 31)) &&& 1) = 0) :
    ∃ v ps f1 q1 t1 dg1 rg1 cr1 ab1 bl1, f4_fewestPasses pset n f0 n q0 t0 digit rung crowd above below broken wrung want rungs people room (nn a) = some (v, ps, f1, q1, t1, dg1, rg1, cr1, ab1, bl1) ∧ ((v = -2 ∧ NS S P (nn a)) ∨ ∃ (k m : Nat) (x : EN), FG S P (nn a) k m x ∧ v = nn k) := by
  have hP4 := hI.1.2.1
  have hp := hL.2.1
  subst hp
  have hr := hL.1
  subst hr
  have hst := set_test (S := S) hP4 ha
  unfold f4_fewestPasses f4_begin
  rw [c_whoLeft hI hW, bnd1_s]
  by_cases c : (nn a &&& (lfF (gR S) P ^^^ -1)) = 0
  · have hn1 : n = 6561 := by
      rcases hn with h | h
      · exact h
      · exact absurd (hst.mp c) h
    subst hn1
    obtain ⟨f1, q1, t1, dg1, ab1, bl1, b1, b2, b3⟩ := c_begin47 (set := nn a) (tail0 := t0) (from_ := f0) (queue := q0) (digit := digit) (above := above) (below := below) hI hR0 hW hL
    obtain ⟨a9, e9, h9⟩ := c_rounds (t0 := t1) (rung := rung) (crowd := crowd) hI hR0 hW hL b3 (hst.mp c) b2
    rw [if_pos c, if_neg (show ¬ Int32.ofNat 6561 = 0 by decide), b1, bnd8_s, if_neg (show ¬ (1 : Int32) = 0 by decide), e9]
    rcases h9 with ⟨k, m, x, f2, q2, t2, rg1, cr1, k1, rfl⟩ | ⟨f2, q2, t2, rg1, cr1, k1, rfl⟩
    · rw [bndS5_l]
      exact ⟨_, _, _, _, _, _, _, _, _, _, rfl, Or.inr ⟨k, m, x, k1, rfl⟩⟩
    · rw [bndS5_r]
      exact ⟨_, _, _, _, _, _, _, _, _, _, rfl, Or.inl ⟨rfl, k1⟩⟩
  · rw [if_neg c, bnd8_s, if_pos rfl]
    refine ⟨_, _, _, _, _, _, _, _, _, _, rfl, Or.inl ⟨rfl, fun N y _ _ => Bool.eq_false_iff.mpr (fun hg => c (hst.mpr (fun p hp hf => ?_)))⟩⟩
    rcases glF_p hg hp with h | h
    · exact h
    · exact absurd hf h
theorem r_squeeze {n : Nat} {pset t0 fu : Int32} {f0 q0 rung crowd far fq : Nat → Int32} (hI : IV R P S) (hW : RWd S hour broken wrung grip want slips worn) (hL : RLd R P S rungs people room strength weight told) (a1 : Int32) (hn : n = 6561 ∨ ¬ PW R P S a1) :
    ∃ v ps f1 q1 t1 dg1 rg1 cr1 ab1 bl1 far1 fq1 fu1, f11_squeeze rungs people pset n f0 n q0 t0 digit rung crowd above below broken wrung want rungs people room a1 = some (v, ps, f1, q1, t1, dg1, rg1, cr1, ab1, bl1) ∧ f12_squeeze S far fq fu a1 = some (v, S, far1, fq1, fu1) := by
  have hno : ∃ v ps f1 q1 t1 dg1 rg1 cr1 ab1 bl1 far1 fq1 fu1, some ((-1 : Int32), pset, f0, q0, t0, digit, rung, crowd, above, below) = some (v, ps, f1, q1, t1, dg1, rg1, cr1, ab1, bl1) ∧ some ((-1 : Int32), S, far, fq, fu) = some (v, S, far1, fq1, fu1) := ⟨_, _, _, _, _, _, _, _, _, _, _, _, _, rfl, rfl⟩
  have hp := hL.2.1
  subst hp
  have hr := hL.1
  subst hr
  unfold f11_squeeze f12_squeeze
  rcases p_has hI with ⟨z0, e1, e2⟩ | ⟨hR0, e1, e2⟩
  · have e3 : f12_isSet S a1 = some 0 := by unfold f12_isSet; rw [e2, bnd1_s, if_pos rfl]
    rw [e1, bnd1_s, if_pos rfl, e3, bnd1_s, if_pos rfl]; exact hno
  · rw [e1, bnd1_s, if_neg (show ¬ (1 : Int32) = 0 by decide)]
    rcases p_isSet hI hR0 a1 with ⟨g1, g2⟩ | ⟨a, ha, rfl, g1, g2⟩
    · rw [g1, bnd1_s, if_pos rfl, g2, bnd1_s, if_pos rfl]; exact hno
    · obtain ⟨v, ps, f1, q1, t1, dg1, rg1, cr1, ab1, bl1, k1, k2⟩ := c_fewestP (n := n) (pset := pset) (t0 := t0) (f0 := f0) (q0 := q0) (rung := rung) (crowd := crowd) (digit := digit) (above := above) (below := below) hI hR0 hW hL ha (by
        rcases hn with h | h
        · exact Or.inl h
        · exact Or.inr (fun h2 => h ⟨hR0, a, ha, rfl, h2⟩))
      obtain ⟨K, far1, fq1, fu1, m1, m2, m3⟩ := m_fillsPasses (far := far) (queue := fq) (queued := fu) hI hR0
      obtain ⟨l1, l2, l3, l4, l5, l6⟩ := lvl_LI hI hR0 K
      have hlen := l1.len hI.1.1 hI.1.2.1
      have hK6 : K ≤ 6561 ∨ ∀ x, x ∈ (lvl S P K).1 → x.2.2.2 ≤ 6561 := by
        by_cases c : K ≤ 6561
        · exact Or.inl c
        · right
          intro x hx
          obtain ⟨j, hj⟩ := List.getElem?_of_mem hx
          have he := lvl_pre (S := S) (P := P) (k := 6561) (m := K) (by omega)
          obtain ⟨T, hT⟩ := he
          obtain ⟨q1, q2, q3, q4, q5, q6⟩ := lvl_LI hI hR0 6561
          have hl2 := q1.len hI.1.1 hI.1.2.1
          have h9 : (lvl S P 6561).2 = (lvl S P 6561).1.length := by rcases q6 with h | h <;> omega
          have h10 := lvl_fix h9 (K - 6561)
          rw [show 6561 + (K - 6561) = K by omega] at h10
          rw [h10] at hx
          exact q4 x hx
      have hD : ∀ x, x ∈ (lvl S P K).1 → x.2.2.2 < 2147483648 := by
        intro x hx
        rcases hK6 with h | h
        · have := l4 x hx; omega
        · have := h x hx; omega
      rw [g1, bnd1_s, if_neg (show ¬ (1 : Int32) = 0 by decide), g2, bnd1_s, if_neg (show ¬ (1 : Int32) = 0 by decide), k1, bnd10_s, m1, bnd4_s]
      rcases m_goalFar (set := nn a) hI hR0 l1 l3 hD m2 with ⟨g, e, j1, j2, j3, j4⟩ | ⟨j1, j2⟩
      · rcases k2 with ⟨rfl, k2⟩ | ⟨k, m, x, k2, rfl⟩
        · have := k2 K e m3 (List.mem_of_getElem? j1)
          rw [j2] at this; cases this
        · obtain ⟨q1, q2, q3⟩ := k2.at hI hR0 m3
          have hge : g = (lvl S P k).2 + m := by
            rcases Nat.lt_trichotomy g ((lvl S P k).2 + m) with c | c | c
            · rw [q2 g e c j1] at j2; cases j2
            · exact c
            · have := j3 _ x c q1
              rw [k2.2.1] at this; cases this
          subst hge
          rw [q1] at j1
          obtain rfl := Option.some.inj j1
          have hd := hD x (List.mem_of_getElem? q1)
          rw [j4, bnd2_s, q3, if_pos (n0le (by omega))]
          exact ⟨_, _, _, _, _, _, _, _, _, _, _, _, _, rfl, rfl⟩
      · rcases k2 with ⟨rfl, k2⟩ | ⟨k, m, x, k2, rfl⟩
        · rw [j2, bnd2_s, if_neg (show ¬ (0 : Int32) ≤ -1 by decide)]
          exact ⟨_, _, _, _, _, _, _, _, _, _, _, _, _, rfl, rfl⟩
        · obtain ⟨q1, q2, q3⟩ := k2.at hI hR0 m3
          have := j1 x (List.mem_of_getElem? q1)
          rw [k2.2.1] at this; cases this
end
