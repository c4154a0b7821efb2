/-! moves -/
def tm (x : EN) : Nat := 32 * x.2.1 + x.2.2.1
/-- how the places were come to -/
def SO (S : Nat → Int32) (P : Nat) (L : List EN) (T : Nat) : Prop :=
  L[0]? = some (e0 S) ∧
  (∀ (j : Nat) (x : EN), 0 < j → L[j]? = some x → tm x < T ∧ x.2.1 < j ∧ x.2.2.1 < 32 ∧ ∃ pe : EN, L[x.2.1]? = some pe ∧ x.2.2.2 = pe.2.2.2 + 1 ∧ suc S P pe.1 x.2.2.1 = some x.1) ∧
  (∀ (j k : Nat) (x y : EN), 0 < j → j < k → L[j]? = some x → L[k]? = some y → tm x < tm y) ∧
  (∀ (i m : Nat) (e : EN) (d : Nat → Nat), 32 * i + m < T → m < 32 → L[i]? = some e → suc S P e.1 m = some d → ∃ (j : Nat) (x : EN), L[j]? = some x ∧ cd9 P x = hc 9 d 0 P ∧ (j = 0 ∨ tm x ≤ 32 * i + m))
section
variable {S : Nat → Int32} {R P : Nat} {d e : Nat → Nat} {L : List EN} {i : Nat}
theorem SO.skip {T : Nat} (h : SO S P L T) (hx : ∀ (i m : Nat) (e : EN) (d : Nat → Nat), 32 * i + m = T → m < 32 → L[i]? = some e → suc S P e.1 m = some d → ∃ (j : Nat) (x : EN), L[j]? = some x ∧ cd9 P x = hc 9 d 0 P ∧ (j = 0 ∨ tm x ≤ 32 * i + m)) : SO S P L (T + 1) := by
  obtain ⟨h0, h1, h2, h3⟩ := h
  refine ⟨h0, fun j x hj hx => ?_, h2, fun i m e d ht hm he hd => ?_⟩
  · obtain ⟨a, b, c, d⟩ := h1 j x hj hx
    exact ⟨by omega, b, c, d⟩
  · by_cases e2 : 32 * i + m = T
    · exact hx i m e d e2 hm he hd
    · exact h3 i m e d (by omega) hm he hd
theorem SO.app {m : Nat} {x pe : EN} (h : SO S P L (32 * i + m)) (hm : m < 32) (hi : L[i]? = some pe) (hs : suc S P pe.1 m = some x.1) (h1 : x.2.1 = i) (h2 : x.2.2.1 = m) (h3 : x.2.2.2 = pe.2.2.2 + 1) : SO S P (L ++ [x]) (32 * i + m + 1) := by
  obtain ⟨g0, g1, g2, g3⟩ := h
  have hil := (List.getElem?_eq_some_iff.mp hi).1
  have old : ∀ {j : Nat} {y : EN}, L[j]? = some y → (L ++ [x])[j]? = some y := fun hj => by
    rw [List.getElem?_append_left ((List.getElem?_eq_some_iff.mp hj).1)]; exact hj
  have cas : ∀ {j : Nat} {y : EN}, (L ++ [x])[j]? = some y → L[j]? = some y ∨ (j = L.length ∧ y = x) := by
    intro j y hj
    by_cases hl : j < L.length
    · rw [List.getElem?_append_left hl] at hj; exact Or.inl hj
    · rw [List.getElem?_append_right (by omega)] at hj
      have hj0 : j - L.length = 0 := by
        rcases Nat.eq_zero_or_pos (j - L.length) with h | h
        · exact h
        · rw [List.getElem?_eq_none (by rw [List.length_singleton]; omega)] at hj; cases hj
      rw [hj0] at hj
      exact Or.inr ⟨by omega, (Option.some.inj hj).symm⟩
  have htx : tm x = 32 * i + m := by unfold tm; rw [h1, h2]
  refine ⟨old g0, fun j y hj hy => ?_, fun j k y z hj hjk hy hz => ?_, fun i2 m2 e2 d2 ht hm2 he hd => ?_⟩
  · rcases cas hy with h | ⟨rfl, rfl⟩
    · obtain ⟨a, b, c, q, q1, q2⟩ := g1 j y hj h
      exact ⟨by omega, b, c, q, old q1, q2⟩
    · exact ⟨by omega, by omega, by omega, pe, by rw [h1]; exact old hi, h3, by rw [h2]; exact hs⟩
  · rcases cas hz with h | ⟨rfl, rfl⟩
    · rcases cas hy with h' | ⟨rfl, rfl⟩
      · exact g2 j k y z hj hjk h' h
      · have := (List.getElem?_eq_some_iff.mp h).1; omega
    · rcases cas hy with h' | ⟨rfl, rfl⟩
      · have := (g1 j y hj h').1; omega
      · omega
  · rcases cas he with h | ⟨rfl, rfl⟩
    · by_cases e9 : 32 * i2 + m2 = 32 * i + m
      · have e10 : i2 = i ∧ m2 = m := by omega
        obtain ⟨rfl, rfl⟩ := e10
        rw [hi] at h
        obtain rfl := Option.some.inj h
        rw [hs] at hd
        obtain rfl := Option.some.inj hd
        exact ⟨L.length, x, by rw [List.getElem?_append_right (Nat.le_refl _), Nat.sub_self]; rfl, rfl, Or.inr (by omega)⟩
      · obtain ⟨j, y, a, b, c⟩ := g3 i2 m2 e2 d2 (by omega) hm2 h hd
        exact ⟨j, y, old a, b, c⟩
    · omega
theorem SO.ex {pe : EN} (h : SO S P L (32 * i)) (hi : L[i]? = some pe) : ∀ m, m ≤ 32 → SO S P (exM S P 0 8 pe.1 i (pe.2.2.2 + 1) L m) (32 * i + m)
  | 0, _ => h
  | m + 1, hm => by
    have ih := SO.ex h hi m (by omega)
    obtain ⟨T, hT⟩ := exM_pre (S := S) (P := P) (lo := 0) (hi := 8) (d := pe.1) (i := i) (dp := pe.2.2.2 + 1) (L := L) m
    have hi2 : (exM S P 0 8 pe.1 i (pe.2.2.2 + 1) L m)[i]? = some pe := by
      rw [hT, List.getElem?_append_left ((List.getElem?_eq_some_iff.mp hi).1)]; exact hi
    cases hs : suc S P pe.1 m with
    | none =>
      rw [exM_no (Or.inr hs)]
      refine ih.skip (fun i2 m2 e2 d2 ht hm2 he hd => ?_)
      have e10 : i2 = i ∧ m2 = m := by omega
      obtain ⟨rfl, rfl⟩ := e10
      rw [hi2] at he
      obtain rfl := Option.some.inj he
      rw [hs] at hd; cases hd
    | some d' =>
      rw [exM_so (by omega) hs]
      unfold pushE
      by_cases c : seenL P (exM S P 0 8 pe.1 i (pe.2.2.2 + 1) L m) (cd9 P ((d', i, m, pe.2.2.2 + 1) : EN)) = true
      · rw [if_pos c]
        refine ih.skip (fun i2 m2 e2 d2 ht hm2 he hd => ?_)
        have e10 : i2 = i ∧ m2 = m := by omega
        obtain ⟨rfl, rfl⟩ := e10
        rw [hi2] at he
        obtain rfl := Option.some.inj he
        rw [hs] at hd
        obtain rfl := Option.some.inj hd
        obtain ⟨y, hy, e5⟩ := seen_iff.mp c
        obtain ⟨j, hj⟩ := List.getElem?_of_mem hy
        refine ⟨j, y, hj, e5, ?_⟩
        rcases Nat.eq_zero_or_pos j with h0 | h0
        · exact Or.inl h0
        · exact Or.inr (Nat.le_of_lt (ih.2.1 j y h0 hj).1)
      · rw [if_neg c]
        exact ih.app (by omega) hi2 hs rfl rfl rfl
theorem SO0 : SO S P [e0 S] 0 := by
  refine ⟨rfl, fun j x hj hx => ?_, fun j k x y hj hjk hx hy => ?_, fun i m e d ht => absurd ht (Nat.not_lt_zero _)⟩
  · cases j with
    | zero => exact absurd hj (Nat.lt_irrefl _)
    | succ j => cases hx
  · cases k with
    | zero => omega
    | succ k => cases hy
theorem bf_SO : ∀ i, i ≤ (bf S P i).length ∨ True → SO S P (bf S P i) (32 * i) ∨ (bf S P i).length ≤ i
  | 0, _ => Or.inl SO0
  | i + 1, _ => by
    cases h : (bf S P i)[i]? with
    | none =>
      rw [bf_n h]
      have := List.getElem?_eq_none_iff.mp h
      exact Or.inr (by omega)
    | some e =>
      rcases bf_SO i (Or.inr trivial) with h2 | h2
      · rw [bf_s h]
        have := h2.ex h 32 (Nat.le_refl _)
        rw [show 32 * i + 32 = 32 * (i + 1) by omega] at this
        exact Or.inl this
      · have := (List.getElem?_eq_some_iff.mp h).1
        omega
theorem bf_ex {i N : Nat} (hN : (bf S P N).length = N) (h : i < N) : ∃ e, (bf S P i)[i]? = some e := by
  cases h2 : (bf S P i)[i]? with
  | some e => exact ⟨e, rfl⟩
  | none =>
    exfalso
    have hl := List.getElem?_eq_none_iff.mp h2
    have : ∀ k, bf S P (i + k) = bf S P i := by
      intro k
      induction k with
      | zero => rfl
      | succ k ih =>
        have : (bf S P (i + k))[i + k]? = none := by
          rw [ih]
          exact List.getElem?_eq_none_iff.mpr (by omega)
        show bf S P (i + k + 1) = _
        rw [bf_n this, ih]
    have h3 := this (N - i)
    rw [show i + (N - i) = N by omega] at h3
    rw [h3] at hN
    omega
theorem bf_SO' {i N : Nat} (hN : (bf S P N).length = N) (h : i ≤ N) : SO S P (bf S P i) (32 * i) := by
  induction i with
  | zero =>
    rcases bf_SO (S := S) (P := P) 0 (Or.inr trivial) with h2 | h2
    · exact h2
    · exact absurd h2 (by show ¬ (1 : Nat) ≤ 0; omega)
  | succ i ih =>
    obtain ⟨e, he⟩ := bf_ex hN (show i < N by omega)
    rw [bf_s he]
    have := (ih (by omega)).ex he 32 (Nat.le_refl _)
    rw [show 32 * i + 32 = 32 * (i + 1) by omega] at this
    exact this
/-- how long the row to a place is -/
theorem c_length {from_ queue : Nat → Int32} {tail : Int32} {g T : Nat} {x : EN} (hA : CA R P L from_ queue tail) (hG : GL R P S L) (hS : SO S P L T) (hR9 : R < 10) (hP4 : P < 5) (hg : L[g]? = some x) : f4_lengthOfRow 6561 from_ (nn (cdR R P x)) = some (nn x.2.2.2) ∧ x.2.2.2 ≤ g := by
  have hdep : ∀ (n : Nat) (j : Nat) (y : EN), j ≤ n → L[j]? = some y → y.2.2.2 ≤ j := by
    intro n
    induction n with
    | zero =>
      intro j y hj hy
      obtain rfl : j = 0 := by omega
      rw [hS.1] at hy
      obtain rfl := Option.some.inj hy
      exact Nat.le_refl _
    | succ n ih =>
      intro j y hj hy
      rcases Nat.eq_zero_or_pos j with h0 | h0
      · exact ih j y (by omega) hy
      · obtain ⟨-, q1, -, pe, q2, q3, -⟩ := hS.2.1 j y h0 hy
        have := ih y.2.1 pe (by omega) q2
        omega
  have hlen := hG.len hR9 hP4
  have hgl := (List.getElem?_eq_some_iff.mp hg).1
  refine ⟨?_, hdep g g x (Nat.le_refl _) hg⟩
  obtain ⟨a, e, rfl⟩ := iter_wfF (B := fun (z : Int32 × Int32) => f4_lengthOfRow_B7 6561 from_ z.1 z.2) (s := (nn (cdR R P x), (0 : Int32))) (n := g)
    (I := fun m z => ∃ (j c : Nat) (y : EN), j ≤ m ∧ m ≤ g ∧ L[j]? = some y ∧ z.1 = nn (cdR R P y) ∧ z.2 = nn c ∧ c + y.2.2.2 = x.2.2.2)
    (Po := fun a => a = nn x.2.2.2)
    ⟨g, 0, x, Nat.le_refl _, Nat.le_refl _, hg, rfl, rfl, Nat.zero_add _⟩ (by omega)
    (by
      rintro m ⟨v1, v2⟩ ⟨j, c, y, hj, hm, hy, rfl, rfl, hc⟩
      dsimp only
      unfold f4_lengthOfRow_B7
      have hxd := hdep g g x (Nat.le_refl _) hg
      have hcy : cdR R P y < 6561 := (hG.2 y (List.mem_of_getElem? hy)).cR hR9 hP4
      have hb : ¬ (nn (cdR R P y) < 0 ∨ 6561 ≤ cdR R P y) := ng (by omega) (by omega)
      rw [if_neg (show ¬ (6561 : Int32) ≤ nn c from nle (a := 6561) (by omega) (by omega) (by omega)), nn_nat (show cdR R P y < 2147483648 by omega), if_neg hb]
      rcases (hA.2.1 j y hy).2 with ⟨rfl, hf⟩ | ⟨h0, hm32, pe, hp, hf⟩
      · right
        rw [hS.1] at hy
        obtain rfl := Option.some.inj hy
        rw [if_pos hf]
        refine ⟨_, rfl, ?_⟩
        have : c = x.2.2.2 := by
          have h00 : (e0 S).2.2.2 = 0 := rfl
          omega
        rw [this]
      · left
        have hcp : cdR R P pe < 6561 := (hG.2 pe (List.mem_of_getElem? hp)).cR hR9 hP4
        have hdv : nn (cdR R P pe * 64 + y.2.2.1) / 64 = nn (cdR R P pe) := by
          have := pk_div (a := cdR R P pe * 64 + y.2.2.1) (d := 64) (by omega) (by decide) (by decide)
          rw [show nn (cdR R P pe * 64 + y.2.2.1) / 64 = nn ((cdR R P pe * 64 + y.2.2.1) / 64) from this]
          congr 1
          omega
        have hn2 : ¬ nn (cdR R P pe * 64 + y.2.2.1) = -2 := by
          intro h
          have := nlt0 (a := cdR R P pe * 64 + y.2.2.1) (by omega)
          rw [h] at this
          exact this (by decide)
        obtain ⟨-, q1, -, pe2, q2, q3, -⟩ := hS.2.1 j y h0 hy
        rw [q2] at hp
        obtain rfl := Option.some.inj hp
        rw [hf, if_neg hn2, if_neg hb, lt_df, lt_df, nn_succ, hdv]
        exact ⟨_, y.2.1, rfl, by omega, y.2.1, c + 1, pe2, Nat.le_refl _, by omega, q2, rfl, rfl, by omega⟩)
  unfold f4_lengthOfRow
  rw [e, bnd1_s]
/-- the class's search for moves -/
theorem c_fewest13 {set rungs people hour broken : Int32} {wrung grip want slips worn room strength weight told f0 q0 rung crowd digit above below : Nat → Int32} {t0 goal rl : Int32} (hI : IV R P S) (hR0 : 0 < R) (hW : RWd S hour broken wrung grip want slips worn) (hL : RLd R P S rungs people room strength weight told) (hKB : KB R P S digit above below) (hset : ∀ p, p < P → S (46 + 4 * p) < 0 → ((set >>> (nn p &&& 31)) &&& 1) = 0) (hA : CA R P [e0 S] f0 q0 t0) :
    ∃ a, iter (fun (z : (Nat → Int32) × (Nat → Int32) × Int32 × Int32 × Int32 × (Nat → Int32) × (Nat → Int32) × Int32) => f4_fewestMoves_B13 6561 wrung rungs people set want 6561 digit above below room z.1 z.2.1 z.2.2.1 z.2.2.2.1 z.2.2.2.2.1 z.2.2.2.2.2.1 z.2.2.2.2.2.2.1 z.2.2.2.2.2.2.2) FUEL (f0, q0, t0, goal, rl, rung, crowd, (0 : Int32)) = some a ∧
      ((∃ (g : Nat) (x : EN) (f1 q1 : Nat → Int32) (t1 : Int32) (rg1 cr1 : Nat → Int32), (∀ j, j < g → ∃ y : EN, (bf S P j)[j]? = some y ∧ glF S set y.1 P = false) ∧ (bf S P g)[g]? = some x ∧ glF S set x.1 P = true ∧ CA R P (bf S P g) f1 q1 t1 ∧ a = .inl (nn x.2.2.2, set, f1, q1, t1, nn (cdR R P x), nn x.2.2.2, digit, rg1, cr1, above, below)) ∨
       (∃ (N : Nat) (f1 q1 : Nat → Int32) (t1 : Int32) (rg1 cr1 : Nat → Int32), (bf S P N).length = N ∧ (∀ j, j < N → ∃ y : EN, (bf S P j)[j]? = some y ∧ glF S set y.1 P = false) ∧ a = .inr (f1, q1, t1, goal, rl, rg1, cr1))) := by
  have hR9 := hI.1.1
  have hP4 := hI.1.2.1
  refine iter_wfF (B := fun (z : (Nat → Int32) × (Nat → Int32) × Int32 × Int32 × Int32 × (Nat → Int32) × (Nat → Int32) × Int32) => f4_fewestMoves_B13 6561 wrung rungs people set want 6561 digit above below room z.1 z.2.1 z.2.2.1 z.2.2.2.1 z.2.2.2.2.1 z.2.2.2.2.2.1 z.2.2.2.2.2.2.1 z.2.2.2.2.2.2.2) (s := (f0, q0, t0, goal, rl, rung, crowd, (0 : Int32))) (n := 6562)
    (I := fun m z => ∃ i, m + i = 6562 ∧ z.2.2.2.2.2.2.2 = nn i ∧ z.2.2.2.1 = goal ∧ z.2.2.2.2.1 = rl ∧ CA R P (bf S P i) z.1 z.2.1 z.2.2.1 ∧ i ≤ (bf S P i).length ∧ SO S P (bf S P i) (32 * i) ∧ ∀ j, j < i → ∃ y : EN, (bf S P j)[j]? = some y ∧ glF S set y.1 P = false)
    (Po := fun a => (∃ (g : Nat) (x : EN) (f1 q1 : Nat → Int32) (t1 : Int32) (rg1 cr1 : Nat → Int32), (∀ j, j < g → ∃ y : EN, (bf S P j)[j]? = some y ∧ glF S set y.1 P = false) ∧ (bf S P g)[g]? = some x ∧ glF S set x.1 P = true ∧ CA R P (bf S P g) f1 q1 t1 ∧ a = .inl (nn x.2.2.2, set, f1, q1, t1, nn (cdR R P x), nn x.2.2.2, digit, rg1, cr1, above, below)) ∨
       (∃ (N : Nat) (f1 q1 : Nat → Int32) (t1 : Int32) (rg1 cr1 : Nat → Int32), (bf S P N).length = N ∧ (∀ j, j < N → ∃ y : EN, (bf S P j)[j]? = some y ∧ glF S set y.1 P = false) ∧ a = .inr (f1, q1, t1, goal, rl, rg1, cr1)))
    ⟨0, rfl, rfl, rfl, rfl, hA, Nat.zero_le _, (by
      rcases bf_SO (S := S) (P := P) 0 (Or.inr trivial) with h2 | h2
      · exact h2
      · exact absurd h2 (by show ¬ (1 : Nat) ≤ 0; omega)), fun j hj => absurd hj (Nat.not_lt_zero _)⟩ (by omega) ?_
  rintro m ⟨f, q, t, go, rl2, rg, cr, v⟩ ⟨i, hm, rfl, rfl, rfl, hA, hi, hSO, hng⟩
  dsimp only at hA ⊢
  unfold f4_fewestMoves_B13
  have hG := bf_GL hI hR0 i
  have hlen := hG.len hR9 hP4
  have e6 : Int32.ofNat 6561 = nn 6561 := rfl
  rw [hA.1, e6]
  by_cases hil : i < (bf S P i).length
  · obtain ⟨x, hx⟩ : ∃ x, (bf S P i)[i]? = some x := ⟨_, List.getElem?_eq_getElem hil⟩
    have hv := hG.2 x (List.mem_of_getElem? hx)
    have hqi := (hA.2.1 i x hx).1
    have hci : ¬ (nn i < 0 ∨ 6561 ≤ i) := ng (by omega) (by omega)
    obtain ⟨rg1, cr1, u1, u2⟩ := c_unfold (rung := rg) (crowd := cr) hI hR0 hW hL hv
    have hth := c_isThere (set := set) hI hW hL.2.1 hv u2 hset
    rw [if_neg (nle (by omega) (by omega) (by omega)), if_neg (nle (by omega) (by omega) (by omega)), nn_nat (show i < 2147483648 by omega), if_neg hci, hqi]
    rw [show f4_unfold rg cr wrung rungs people (nn (cdR R P x)) = _ from u1, bnd2_s, hth, bnd1_s]
    by_cases hg : glF S set x.1 P = true
    · right
      obtain ⟨l1, l2⟩ := c_length hA hG hSO hR9 hP4 hx
      rw [if_pos hg, if_neg (show ¬ (1 : Int32) = 0 by decide), if_neg hci, lt_df, l1, bnd1_s]
      refine ⟨_, rfl, Or.inl ⟨i, x, f, q, t, rg1, cr1, hng, hx, hg, hA, ?_⟩⟩
      rw [hA.1]
    · left
      rw [if_neg hg, if_pos rfl]
      obtain ⟨⟨f9, q9, t9⟩, e9, hA9⟩ := iter_wfF (B := fun (z : (Nat → Int32) × (Nat → Int32) × Int32 × Int32) => f4_fewestMoves_B72 people (nn i) 6561 6561 digit rg1 cr1 above below wrung room z.1 z.2.1 z.2.2.1 z.2.2.2) (s := (f, q, nn (bf S P i).length, (0 : Int32))) (n := P)
        (I := fun m z => ∃ p, m + p = P ∧ z.2.2.2 = nn p ∧ CA R P (exM S P 0 8 x.1 i (x.2.2.2 + 1) (bf S P i) (8 * p)) z.1 z.2.1 z.2.2.1)
        (Po := fun z => CA R P (exM S P 0 8 x.1 i (x.2.2.2 + 1) (bf S P i) (8 * P)) z.1 z.2.1 z.2.2)
        ⟨0, rfl, rfl, by rw [← hA.1]; exact hA⟩ (by omega)
        (by
          rintro m2 ⟨f2, q2, t2, v2⟩ ⟨p, hm2, rfl, hA2⟩
          dsimp only at hA2 ⊢
          unfold f4_fewestMoves_B72
          rw [hL.2.1]
          have qk : ∀ (n : Nat) (f3 q3 : Nat → Int32) (t3 : Int32), CA R P (exM S P 0 8 x.1 i (x.2.2.2 + 1) (bf S P i) n) f3 q3 t3 → q3 i = nn (cdR R P x) := by
            intro n f3 q3 t3 hA3
            obtain ⟨T, hT⟩ := exM_pre (S := S) (P := P) (lo := 0) (hi := 8) (d := x.1) (i := i) (dp := x.2.2.2 + 1) (L := bf S P i) n
            refine (hA3.2.1 i x ?_).1
            rw [hT, List.getElem?_append_left hil]; exact hx
          by_cases hp : p < P
          · left
            obtain ⟨f3, q3, t3, j1, j2⟩ := c_trySteps (lo := 0) (hi := 8) (dp := x.2.2.2 + 1) hI hW hL hG hv hp rfl (by omega) hA2 hx rfl u2 hKB
            obtain ⟨f4, q4, t4, k1, k2⟩ := c_tryPasses (lo := 0) (hi := 8) (dp := x.2.2.2 + 1) hI hW hL hG hv hp (by omega) rfl j2 hx rfl u2 hKB
            rw [hL.2.1] at k1
            rw [if_neg (nle (by omega) (by omega) (by omega)), nn_nat (show i < 2147483648 by omega), if_neg hci, qk _ _ _ _ hA2, j1, bnd3_s, if_neg hci, qk _ _ _ _ j2, k1, bnd3_s, lt_df, nn_succ]
            exact ⟨_, m2 - 1, rfl, by omega, p + 1, by omega, rfl, k2⟩
          · right
            obtain rfl : p = P := by omega
            rw [if_pos (Int32.le_refl _)]
            exact ⟨_, rfl, hA2⟩)
      have h32 : exM S P 0 8 x.1 i (x.2.2.2 + 1) (bf S P i) 32 = exM S P 0 8 x.1 i (x.2.2.2 + 1) (bf S P i) (8 * P) := exM_gap' (m := 8 * P) (by omega) (fun q h1 h2 => Or.inr (suc_far (by omega)))
      rw [← h32, ← bf_s hx] at hA9
      rw [e9, bnd3_s, lt_df, nn_succ]
      have hso := hSO.ex hx 32 (Nat.le_refl _)
      rw [show 32 * i + 32 = 32 * (i + 1) by omega, ← bf_s hx] at hso
      refine ⟨_, m - 1, rfl, by omega, i + 1, by omega, rfl, rfl, rfl, hA9, ?_, hso, fun j hj => ?_⟩
      · obtain ⟨T, hT⟩ := bf_pre (S := S) (P := P) (show i ≤ i + 1 by omega)
        rw [hT, List.length_append]; omega
      · by_cases e : j = i
        · subst e; exact ⟨x, hx, Bool.eq_false_iff.mpr hg⟩
        · exact hng j (by omega)
  · right
    have : (bf S P i).length = i := by omega
    rw [if_pos (nleT (by omega) (by omega) (by omega))]
    exact ⟨_, rfl, Or.inr ⟨i, f, q, nn (bf S P i).length, rg, cr, this, hng, rfl⟩⟩
end
