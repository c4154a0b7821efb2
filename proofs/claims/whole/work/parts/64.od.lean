/-! moves: the answers -/
def gB (b0 b1 b2 b3 : Bool) : Nat → Int32 := fun p => if (match p with | 0 => b0 | 1 => b1 | 2 => b2 | _ => b3) then -1 else 0
theorem gB_test : ∀ b0 b1 b2 b3 : Bool, ∀ P, P < 5 → ∀ a, a < 16 → a < 2 ^ P → ((nn a &&& (lfF (gB b0 b1 b2 b3) P ^^^ -1)) = 0 ↔ ∀ p, p < P → gB b0 b1 b2 b3 p < 0 → ((nn a >>> (nn p &&& 31)) &&& 1) = 0) := by decide +kernel
theorem lfF_sign {g g' : Nat → Int32} : ∀ {k : Nat}, (∀ p, p < k → (g p < 0 ↔ g' p < 0)) → lfF g k = lfF g' k
  | 0, _ => rfl
  | k + 1, h => by
    simp only [lfF]
    rw [lfF_sign (fun p hp => h p (by omega))]
    by_cases c : g k < 0
    · rw [if_pos c, if_pos ((h k (by omega)).mp c)]
    · rw [if_neg c, if_neg (fun c2 => c ((h k (by omega)).mpr c2))]
theorem gB_lt (b : Bool) : ((if b = true then (-1 : Int32) else 0) < 0) ↔ b = true := by cases b <;> decide
theorem pow16 {P : Nat} (hP4 : P < 5) : 2 ^ P ≤ 16 := Nat.le_trans (Nat.pow_le_pow_right (by decide) (show P ≤ 4 by omega)) (by decide)
theorem set_test {S : Nat → Int32} {P a : Nat} (hP4 : P < 5) (ha : a < 2 ^ P) : ((nn a &&& (lfF (gR S) P ^^^ -1)) = 0 ↔ ∀ p, p < P → S (46 + 4 * p) < 0 → ((nn a >>> (nn p &&& 31)) &&& 1) = 0) := by
  have h16 := pow16 hP4
  have hs : ∀ p, p < P → (gR S p < 0 ↔ gB (decide (S 46 < 0)) (decide (S 50 < 0)) (decide (S 54 < 0)) (decide (S 58 < 0)) p < 0) := by
    intro p hp
    rcases (show p = 0 ∨ p = 1 ∨ p = 2 ∨ p = 3 by omega) with rfl | rfl | rfl | rfl
    · exact (decide_eq_true_iff (p := S 46 < 0)).symm.trans (gB_lt (decide (S 46 < 0))).symm
    · exact (decide_eq_true_iff (p := S 50 < 0)).symm.trans (gB_lt (decide (S 50 < 0))).symm
    · exact (decide_eq_true_iff (p := S 54 < 0)).symm.trans (gB_lt (decide (S 54 < 0))).symm
    · exact (decide_eq_true_iff (p := S 58 < 0)).symm.trans (gB_lt (decide (S 58 < 0))).symm
  rw [lfF_sign hs, gB_test _ _ _ _ P hP4 a (by omega) ha]
  constructor
  · exact fun h p hp h2 => h p hp ((hs p hp).mp h2)
  · exact fun h p hp h2 => h p hp ((hs p hp).mpr h2)
theorem shl1 : ∀ P, P < 5 → ((1 : Int32) <<< (nn P &&& 31)) = nn (2 ^ P) := by decide +kernel
theorem glF_p {S : Nat → Int32} {set : Int32} {d : Nat → Nat} {k p : Nat} (h : glF S set d k = true) (hp : p < k) : ((set >>> (nn p &&& 31)) &&& 1) = 0 ∨ ¬ S (46 + 4 * p) < 0 := by
  have h2 : (glF S set d p && (decide (((set >>> (nn p &&& 31)) &&& 1) = 0) || (decide (¬ S (46 + 4 * p) < 0) && decide (nn (d p) = S (48 + 4 * p))))) = true := glF_mono (show p + 1 ≤ k by omega) h
  rw [Bool.and_eq_true, Bool.or_eq_true, Bool.and_eq_true] at h2
  rcases h2.2 with h3 | h3
  · exact Or.inl (of_decide_eq_true h3)
  · exact Or.inr (of_decide_eq_true h3.1)
section
variable {S : Nat → Int32} {R P : Nat} {L : List EN} {i : Nat}
theorem p_isSet (hI : IV R P S) (hR0 : 0 < R) (a1 : Int32) : (f11_isSet (nn P) a1 = some 0 ∧ f12_isSet S a1 = some 0) ∨ (∃ a, a < 2 ^ P ∧ a1 = nn a ∧ f11_isSet (nn P) a1 = some 1 ∧ f12_isSet S a1 = some 1) := by
  have hP4 := hI.1.2.1
  have h16 := pow16 hP4
  have hl : f12_isLadder S = some 1 := by
    rcases p_has hI with ⟨z0, -, -⟩ | ⟨-, -, e2⟩
    · omega
    · exact e2
  have e : f12_isSet S a1 = f11_isSet (nn P) a1 := by
    unfold f12_isSet f11_isSet
    rw [hl, bnd1_s, if_neg (show ¬ (1 : Int32) = 0 by decide), hI.1.2.2.2.1]
  rw [e]
  have e2 : f11_isSet (nn P) a1 = if a1 < 0 then (some 0) else (if nn (2 ^ P) ≤ a1 then (some 0) else (some 1)) := by
    unfold f11_isSet
    rw [shl1 P hP4]
  rw [e2]
  by_cases c : a1 < 0
  · rw [if_pos c]; exact Or.inl ⟨rfl, rfl⟩
  · rw [if_neg c]
    by_cases c2 : nn (2 ^ P) ≤ a1
    · rw [if_pos c2]; exact Or.inl ⟨rfl, rfl⟩
    · rw [if_neg c2]
      obtain ⟨k, hk, rfl⟩ := nn_of_lt c (show 2 ^ P < 2147483648 by omega) (Int32.not_le.mp c2)
      exact Or.inr ⟨k, hk, rfl, rfl, rfl⟩
theorem bf_fix {N : Nat} (h : (bf S P N).length ≤ N) : ∀ k, bf S P (N + k) = bf S P N
  | 0 => rfl
  | k + 1 => by
    have ih := bf_fix h k
    have h2 : (bf S P (N + k))[N + k]? = none := by rw [ih]; exact List.getElem?_eq_none_iff.mpr (by omega)
    show bf S P (N + k + 1) = _
    rw [bf_n h2, ih]
/-- the first goal in the row of places -/
def Gl (S : Nat → Int32) (P : Nat) (set : Int32) (g : Nat) (x : EN) : Prop := (∀ j, j < g → ∃ y : EN, (bf S P j)[j]? = some y ∧ glF S set y.1 P = false) ∧ (bf S P g)[g]? = some x ∧ glF S set x.1 P = true
def NG (S : Nat → Int32) (P : Nat) (set : Int32) : Prop := ∀ (N : Nat) (y : EN), (bf S P N).length = N → y ∈ bf S P N → glF S set y.1 P = false
theorem Gl.at {N g : Nat} {set : Int32} {x : EN} (hN : (bf S P N).length = N) (h : Gl S P set g x) : (bf S P N)[g]? = some x := by
  by_cases c : g ≤ N
  · exact bf_at c h.2.1
  · exfalso
    have h1 := bf_fix (S := S) (P := P) (N := N) (by omega) (g - N)
    rw [show N + (g - N) = g by omega] at h1
    have h2 := h.2.1
    rw [h1] at h2
    have := (List.getElem?_eq_some_iff.mp h2).1
    omega
theorem Gl.low {N g j : Nat} {set : Int32} {x y : EN} (hN : (bf S P N).length = N) (h : Gl S P set g x) (hj : j < g) (hy : (bf S P N)[j]? = some y) : glF S set y.1 P = false := by
  obtain ⟨z, hz, e⟩ := h.1 j hj
  have hjN := (List.getElem?_eq_some_iff.mp hy).1
  have := bf_at (show j ≤ N by omega) hz
  rw [hy] at this
  obtain rfl := Option.some.inj this
  exact e
theorem Gl.one {N g g2 : Nat} {set : Int32} {x x2 : EN} (hN : (bf S P N).length = N) (h : Gl S P set g x) (h2 : (bf S P N)[g2]? = some x2) (k : glF S set x2.1 P = true) (k2 : ∀ (j : Nat) (y : EN), j < g2 → (bf S P N)[j]? = some y → glF S set y.1 P = false) : g2 = g ∧ x2 = x := by
  have h1 := h.at hN
  rcases Nat.lt_trichotomy g2 g with c | c | c
  · rw [h.low hN c h2] at k; cases k
  · subst c
    rw [h1] at h2
    exact ⟨rfl, (Option.some.inj h2).symm⟩
  · have := k2 g x c h1
    rw [h.2.2] at this; cases this
theorem Gl.no {N g : Nat} {set : Int32} {x : EN} (hN : (bf S P N).length = N) (h : Gl S P set g x) (hn : NG S P set) : False := by
  have := hn N x hN (List.mem_of_getElem? (h.at hN))
  rw [h.2.2] at this; cases this
/-- the class's search as a whole -/
theorem c_fewest {a n : Nat} {pset people rungs hour broken goal rowl t0 : Int32} {wrung grip want slips worn room strength weight told f0 q0 rung crowd digit above below : Nat → Int32} (hI : IV R P S) (hR0 : 0 < R) (hW : RWd S hour broken wrung grip want slips worn) (hL : RLd R P S rungs people room strength weight told) (ha : a < 2 ^ P) (hn : n = 6561 ∨ ¬ ∀ p, p < P → S (46 + 4 * p) < 0 → ((nn a >>> (nn p &&& 31)) &&& 1) = 0) :
    ∃ v ps f1 q1 t1 go1 rl1 dg1 rg1 cr1 ab1 bl1, f4_fewestMoves pset n f0 n q0 t0 goal rowl digit rung crowd above below broken wrung want rungs people room (nn a) = some (v, ps, f1, q1, t1, go1, rl1, dg1, rg1, cr1, ab1, bl1) ∧ ((v = -2 ∧ NG S P (nn a)) ∨ ∃ (g : Nat) (x : EN), n = 6561 ∧ Gl S P (nn a) g x ∧ CA R P (bf S P g) f1 q1 t1 ∧ v = nn x.2.2.2 ∧ go1 = nn (cdR R P x) ∧ rl1 = nn x.2.2.2) := by
  have hP4 := hI.1.2.1
  have hp := hL.2.1
  subst hp
  have hr := hL.1
  subst hr
  have hst := set_test (S := S) hP4 ha
  unfold f4_fewestMoves f4_begin
  rw [c_whoLeft hI hW, bnd1_s]
  by_cases c : (nn a &&& (lfF (gR S) P ^^^ -1)) = 0
  · have hn1 : n = 6561 := by
      rcases hn with h | h
      · exact h
      · exact absurd (hst.mp c) h
    subst hn1
    obtain ⟨f1, q1, t1, dg1, ab1, bl1, b1, b2, b3⟩ := c_begin47 (set := nn a) (tail0 := t0) (from_ := f0) (queue := q0) (digit := digit) (above := above) (below := below) hI hR0 hW hL
    obtain ⟨a9, e9, h9⟩ := c_fewest13 (t0 := t1) (goal := goal) (rl := rowl) (rung := rung) (crowd := crowd) hI hR0 hW hL b3 (hst.mp c) b2
    rw [if_pos c, if_neg (show ¬ Int32.ofNat 6561 = 0 by decide), b1, bnd8_s, if_neg (show ¬ (1 : Int32) = 0 by decide), e9]
    rcases h9 with ⟨g, x, f2, q2, t2, rg1, cr1, k1, k2, k3, k4, rfl⟩ | ⟨N, f2, q2, t2, rg1, cr1, k1, k2, rfl⟩
    · rw [bndS7_l]
      exact ⟨_, _, _, _, _, _, _, _, _, _, _, _, rfl, Or.inr ⟨g, x, rfl, ⟨k1, k2, k3⟩, k4, rfl, rfl, rfl⟩⟩
    · rw [bndS7_r]
      refine ⟨_, _, _, _, _, _, _, _, _, _, _, _, rfl, Or.inl ⟨rfl, fun N2 y hN2 hy => ?_⟩⟩
      have hNN : N2 = N := by
        rcases Nat.le_total N N2 with h | h
        · have := bf_fix (S := S) (P := P) (N := N) (by omega) (N2 - N)
          rw [show N + (N2 - N) = N2 by omega] at this
          rw [this] at hN2; omega
        · have := bf_fix (S := S) (P := P) (N := N2) (by omega) (N - N2)
          rw [show N2 + (N - N2) = N by omega] at this
          rw [this] at k1; omega
      subst hNN
      obtain ⟨j, hj⟩ := List.getElem?_of_mem hy
      have hjl := (List.getElem?_eq_some_iff.mp hj).1
      obtain ⟨z, hz, e⟩ := k2 j (by omega)
      have := bf_at (show j ≤ N2 by omega) hz
      rw [hj] at this
      obtain rfl := Option.some.inj this
      exact e
  · rw [if_neg c, bnd8_s, if_pos rfl]
    refine ⟨_, _, _, _, _, _, _, _, _, _, _, _, rfl, Or.inl ⟨rfl, fun N y _ _ => Bool.eq_false_iff.mpr (fun hg => c (hst.mpr (fun p hp hf => ?_)))⟩⟩
    rcases glF_p hg hp with h | h
    · exact h
    · exact absurd hf h
/-- the reference's search as a whole -/
theorem m_search {set : Int32} {far fq : Nat → Int32} {fu : Int32} (hI : IV R P S) (hR0 : 0 < R) : ∃ N far1 fq1 fu1, f12_fillsMoves S far fq fu = some (S, far1, fq1, fu1) ∧ RA P (bf S P N) far1 fq1 fu1 ∧ (bf S P N).length = N ∧ ((∃ (g : Nat) (x : EN), (bf S P N)[g]? = some x ∧ glF S set x.1 P = true ∧ (∀ (j : Nat) (y : EN), j < g → (bf S P N)[j]? = some y → glF S set y.1 P = false) ∧ f12_goalFar S far1 fq1 fu1 set = some (nn x.2.2.2, S)) ∨ (NG S P set ∧ f12_goalFar S far1 fq1 fu1 set = some (-1, S))) := by
  obtain ⟨N, far1, fq1, fu1, m1, m2, m3⟩ := m_fillsMoves (far := far) (queue := fq) (queued := fu) hI hR0
  have hG := bf_GL hI hR0 N
  have hlen := hG.len hI.1.1 hI.1.2.1
  refine ⟨N, far1, fq1, fu1, m1, m2, m3, ?_⟩
  rcases m_goalFar (set := set) hI hR0 hG (bf_at (Nat.zero_le N) rfl) (fun x hx => by have := bf_dep N x hx; omega) m2 with h | ⟨h1, h2⟩
  · exact Or.inl h
  · refine Or.inr ⟨fun N2 y hN2 hy => ?_, h2⟩
    have hNN : N2 = N := by
      rcases Nat.le_total N N2 with h | h
      · have := bf_fix (S := S) (P := P) (N := N) (by omega) (N2 - N)
        rw [show N + (N2 - N) = N2 by omega] at this
        rw [this] at hN2; omega
      · have := bf_fix (S := S) (P := P) (N := N2) (by omega) (N - N2)
        rw [show N2 + (N - N2) = N by omega] at this
        rw [this] at m3; omega
    subst hNN
    exact h1 y hy
/-- what the search wants of the told people: none of them has fallen -/
def PW (R P : Nat) (S : Nat → Int32) (a1 : Int32) : Prop := 0 < R ∧ ∃ a, a < 2 ^ P ∧ a1 = nn a ∧ ∀ p, p < P → S (46 + 4 * p) < 0 → ((nn a >>> (nn p &&& 31)) &&& 1) = 0
theorem r_moves {n : Nat} {pset people rungs hour broken goal rowl t0 fu : Int32} {wrung grip want slips worn room strength weight told f0 q0 rung crowd digit above below far fq : Nat → Int32} (hI : IV R P S) (hW : RWd S hour broken wrung grip want slips worn) (hL : RLd R P S rungs people room strength weight told) (a1 : Int32) (hn : n = 6561 ∨ ¬ PW R P S a1) :
    ∃ v ps f1 q1 t1 go1 rl1 dg1 rg1 cr1 ab1 bl1 far1 fq1 fu1, f11_moves rungs people pset n f0 n q0 t0 goal rowl digit rung crowd above below broken wrung want rungs people room a1 = some (v, ps, f1, q1, t1, go1, rl1, dg1, rg1, cr1, ab1, bl1) ∧ f12_moves S far fq fu a1 = some (v, S, far1, fq1, fu1) := by
  have hno : ∃ v ps f1 q1 t1 go1 rl1 dg1 rg1 cr1 ab1 bl1 far1 fq1 fu1, some ((-1 : Int32), pset, f0, q0, t0, goal, rowl, digit, rung, crowd, above, below) = some (v, ps, f1, q1, t1, go1, rl1, dg1, rg1, cr1, ab1, bl1) ∧ some ((-1 : Int32), S, far, fq, fu) = some (v, S, far1, fq1, fu1) := ⟨_, _, _, _, _, _, _, _, _, _, _, _, _, _, _, rfl, rfl⟩
  have hp := hL.2.1
  subst hp
  have hr := hL.1
  subst hr
  unfold f11_moves f12_moves
  rcases p_has hI with ⟨z0, e1, e2⟩ | ⟨hR0, e1, e2⟩
  · have e3 : f12_isSet S a1 = some 0 := by unfold f12_isSet; rw [e2, bnd1_s, if_pos rfl]
    rw [e1, bnd1_s, if_pos rfl, e3, bnd1_s, if_pos rfl]; exact hno
  · rw [e1, bnd1_s, if_neg (show ¬ (1 : Int32) = 0 by decide)]
    rcases p_isSet hI hR0 a1 with ⟨g1, g2⟩ | ⟨a, ha, rfl, g1, g2⟩
    · rw [g1, bnd1_s, if_pos rfl, g2, bnd1_s, if_pos rfl]; exact hno
    · obtain ⟨v, ps, f1, q1, t1, go1, rl1, dg1, rg1, cr1, ab1, bl1, k1, k2⟩ := c_fewest (n := n) (pset := pset) (t0 := t0) (goal := goal) (rowl := rowl) (f0 := f0) (q0 := q0) (rung := rung) (crowd := crowd) (digit := digit) (above := above) (below := below) hI hR0 hW hL ha (by
        rcases hn with h | h
        · exact Or.inl h
        · exact Or.inr (fun h2 => h ⟨hR0, a, ha, rfl, h2⟩))
      obtain ⟨N, far1, fq1, fu1, m1, -, m3, m4⟩ := m_search (set := nn a) (far := far) (fq := fq) (fu := fu) hI hR0
      rw [g1, bnd1_s, if_neg (show ¬ (1 : Int32) = 0 by decide), g2, bnd1_s, if_neg (show ¬ (1 : Int32) = 0 by decide), k1, bnd12_s, m1, bnd4_s]
      rcases k2 with ⟨rfl, k2⟩ | ⟨g, x, -, k2, -, rfl, -, -⟩
      · rcases m4 with ⟨g, x, j1, j2, -, -⟩ | ⟨-, j4⟩
        · have := k2 N x m3 (List.mem_of_getElem? j1)
          rw [j2] at this; cases this
        · rw [j4, bnd2_s, if_neg (show ¬ (0 : Int32) ≤ -1 by decide)]
          exact ⟨_, _, _, _, _, _, _, _, _, _, _, _, _, _, _, rfl, rfl⟩
      · rcases m4 with ⟨g', x', j1, j2, j3, j4⟩ | ⟨j1, -⟩
        · obtain ⟨rfl, rfl⟩ := k2.one m3 j1 j2 j3
          have hd := bf_dep N x' (List.mem_of_getElem? j1)
          have hlen := (bf_GL hI hR0 N).len hI.1.1 hI.1.2.1
          rw [j4, bnd2_s, if_pos (n0le (by omega))]
          exact ⟨_, _, _, _, _, _, _, _, _, _, _, _, _, _, _, rfl, rfl⟩
        · exact (k2.no m3 j1).elim
end
