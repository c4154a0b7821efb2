/-! a rule's text: terms, sums -/
section
variable {b : Nat → Nat} {bytes tape : Nat → Int32} {n i j s e k u : Nat} {code sg0 sgn len : Nat → Int32} {size : Int32} {its : List (Nat × Nat)}
theorem seeV {c : Nat} (hx : TX b bytes tape n) (hc : c < 256) (h : ¬ (s < n ∧ b s = c)) : ¬ (if s < n then nn (b s) else (-1 : Int32)) = nn c := by
  by_cases hs : s < n
  · rw [if_pos hs]
    have := (hx.2 s hs).1
    exact nne (by omega) (by omega) (fun q => h ⟨hs, q⟩)
  · rw [if_neg hs]
    exact fun q => nn_ne_m1 (by omega) q.symm
theorem m_termEnd {num : Int32} (hx : TX b bytes tape n) (h : Rn isSp b n i s) (hb : s < n → b s ≠ 42 ∧ b s ≠ 47 ∧ b s ≠ 37) : TBl tape (nn n) (nn k) (sgn, len, nn i, (0 : Int32), num, nn u) = some (.inr (.inr (sgn, len, nn s, 0, num, nn u))) := by
  unfold TBl f12_term_B9
  dsimp only
  rw [m_see hx h, bnd2_s, if_neg (show ¬ (if s < n then nn (b s) else (-1 : Int32)) = 42 from seeV (c := 42) hx (by decide) (fun q => (hb q.1).1 q.2)), m_see hx h.mid, bnd2_s, if_neg (show ¬ (if s < n then nn (b s) else (-1 : Int32)) = 47 from seeV (c := 47) hx (by decide) (fun q => (hb q.1).2.1 q.2)), m_see hx h.mid, bnd2_s, if_neg (show ¬ (if s < n then nn (b s) else (-1 : Int32)) = 37 from seeV (c := 37) hx (by decide) (fun q => (hb q.1).2.2 q.2))]
theorem m_termOn {c o : Nat} {num : Int32} (hco : (c = 42 ∧ o = 4) ∨ (c = 47 ∧ o = 5) ∨ (c = 37 ∧ o = 14)) (hx : TX b bytes tape n) (h : Rn isSp b n i s) (hs : s < n) (hb : b s = c) : TBl tape (nn n) (nn k) (sgn, len, nn i, (0 : Int32), num, nn u) = f12_term_J74 tape (nn n) (nn k) sgn len (nn s) 0 num (nn u) (nn o) := by
  obtain ⟨q1, q2, q3⟩ := hx.2 s hs
  have hn := hx.1
  have hv : (if s < n then nn (b s) else (-1 : Int32)) = nn c := by rw [if_pos hs, hb]
  have ht : tape s = nn c := by rw [q3, hb]; exact sb_lo c (by omega)
  have h36 : f12_term_J36 tape (nn n) (nn k) sgn len (nn s) 0 num (nn u) = f12_term_J74 tape (nn n) (nn k) sgn len (nn s) 0 num (nn u) (nn o) := by
    unfold f12_term_J36
    rw [nn_nat (show s < 2147483648 by omega), if_neg (ng (by omega) (by omega)), ht]
    rcases hco with ⟨rfl, rfl⟩ | ⟨rfl, rfl⟩ | ⟨rfl, rfl⟩
    · rw [if_pos (show nn 42 = 42 from rfl)]; rfl
    · rw [if_neg (show ¬ nn 47 = 42 by decide), if_neg (ng (by omega) (by omega)), if_pos (show nn 47 = 47 from rfl)]; rfl
    · rw [if_neg (show ¬ nn 37 = 42 by decide), if_neg (ng (by omega) (by omega)), if_neg (show ¬ nn 37 = 47 by decide)]; rfl
  unfold TBl f12_term_B9
  dsimp only
  rw [m_see hx h, bnd2_s, hv]
  rcases hco with ⟨rfl, rfl⟩ | ⟨rfl, rfl⟩ | ⟨rfl, rfl⟩
  · rw [if_pos (show nn 42 = 42 from rfl)]; exact h36
  · rw [if_neg (show ¬ nn 47 = 42 by decide), m_see hx h.mid, bnd2_s, hv, if_pos (show nn 47 = 47 from rfl)]; exact h36
  · rw [if_neg (show ¬ nn 37 = 42 by decide), m_see hx h.mid, bnd2_s, hv, if_neg (show ¬ nn 37 = 47 by decide), m_see hx h.mid, bnd2_s, hv, if_pos (show nn 37 = 37 from rfl)]; exact h36
theorem r_termL (hk : k < 6) (hx : TX b bytes tape n) : ∀ (d i s e u q p : Nat) (kind sign num w : Int32) (code sgn len : Nat → Int32) (size : Int32) (its : List (Nat × Nat)), n - i ≤ d → its.length + p ≤ i → q ≤ i → u ≤ 60 → Rn isSp b n i s → Tk b n s kind sign e → CC code size its → CM k sg0 sgn len its →
    (∃ (c q1 u1 s1 e1 : Nat) (k1 g1 num1 size1 : Int32) (code1 sgn1 len1 : Nat → Int32) (its2 : List (Nat × Nat)), c + i ≤ s1 ∧ q1 ≤ s1 ∧ u1 ≤ 60 ∧ its.length + its2.length + p ≤ s1 ∧ u1 = u + cntP its2 ∧ (∀ fr, d < fr → iter (TBl tape (nn n) (nn k)) fr (sgn, len, nn i, (0 : Int32), num, nn u) = some (.inr (sgn1, len1, nn s1, 0, num1, nn u1))) ∧ (∀ f, iter (SBl bytes n) (f + c) (code, size, nn u, kind, sign, (0 : Int32), nn s, nn e, w, nn q) = iter (SBl bytes n) f (code1, size1, nn u1, k1, g1, (0 : Int32), nn s1, nn e1, w, nn q1)) ∧ (s1 < n → b s1 ≠ 42 ∧ b s1 ≠ 47 ∧ b s1 ≠ 37) ∧ Rn isSp b n s1 s1 ∧ Tk b n s1 k1 g1 e1 ∧ CC code1 size1 (its ++ its2) ∧ CM k sg0 sgn1 len1 (its ++ its2) ∧ ∀ B, SgS B → SgS (B ++ its2)) ∨
    (∃ (c w0 : Nat) (code1 : Nat → Int32) (size1 u1 k1 g1 st1 sp1 : Int32) (sgn1 len1 : Nat → Int32) (nx1 num1 ma1 : Int32), 0 < w0 ∧ (w0 < 5000 ∧ 0 ≤ size1 ∧ FR k sg0 sgn1) ∧ c + i ≤ n ∧ (∀ fr, d < fr → iter (TBl tape (nn n) (nn k)) fr (sgn, len, nn i, (0 : Int32), num, nn u) = some (.inl (0, sgn1, len1, nx1, nn w0, num1, ma1))) ∧ ∀ f, iter (SBl bytes n) (f + c + 1) (code, size, nn u, kind, sign, (0 : Int32), nn s, nn e, w, nn q) = some (.inl (0, code1, size1, u1, k1, g1, nn w0, st1, sp1))) := by
  intro d
  induction d with
  | zero =>
    intro i s e u q p kind sign num w code sgn len size its hd hl hq hu h ht hC hM
    have hsn : ¬ s < n := by have := h.1; omega
    have hb : s < n → b s ≠ 42 ∧ b s ≠ 47 ∧ b s ≠ 37 := fun q => absurd q hsn
    left
    refine ⟨0, q, u, s, e, kind, sign, num, size, code, sgn, len, [], by have := h.1; omega, by have := h.1; omega, hu, by have := h.1; show its.length + 0 + p ≤ s; omega, rfl, fun fr hfr => ?_, fun f => rfl, hb, h.mid, ht, by rw [List.append_nil]; exact hC, by rw [List.append_nil]; exact hM, fun B hB => by rw [List.append_nil]; exact hB⟩
    obtain ⟨fr, rfl⟩ : ∃ f, fr = f + 1 := ⟨fr - 1, by omega⟩
    exact iter_r (m_termEnd hx h hb) fr
  | succ d ih =>
    intro i s e u q p kind sign num w code sgn len size its hd hl hq hu h ht hC hM
    have his := h.1
    by_cases hop : s < n ∧ (b s = 42 ∨ b s = 47 ∨ b s = 37)
    · obtain ⟨hs, hop⟩ := hop
      obtain ⟨c, o, hbc, hco⟩ : ∃ c o, b s = c ∧ ((c = 42 ∧ o = 4) ∨ (c = 47 ∧ o = 5) ∨ (c = 37 ∧ o = 14)) := by
        rcases hop with h | h | h
        · exact ⟨42, 4, h, Or.inl ⟨rfl, rfl⟩⟩
        · exact ⟨47, 5, h, Or.inr (Or.inl ⟨rfl, rfl⟩)⟩
        · exact ⟨37, 14, h, Or.inr (Or.inr ⟨rfl, rfl⟩)⟩
      have he : e = s + 1 := by
        rcases ht.isAt (c := c) hx (by omega) (by rcases hco with ⟨rfl, -⟩ | ⟨rfl, -⟩ | ⟨rfl, -⟩ <;> decide) (by rcases hco with ⟨rfl, -⟩ | ⟨rfl, -⟩ | ⟨rfl, -⟩ <;> decide) (by omega) (by omega) with ⟨-, -, h3, -⟩ | ⟨h1, -⟩
        · exact h3
        · exact absurd hbc (h1 hs)
      have hn := hx.1
      obtain ⟨s2, k2, g2, e2, t1, t2, t3⟩ := next_tk (kind := kind) (sign := sign) (i := s + 1) (nn s) hx (by omega)
      have hs2 := t1.1
      rcases r_value (fault := 0) (num := num) hk hx t1 t3 hC hM hu (by omega) with ⟨s3, k3, g3, e3, it, code1, size1, sgn1, len1, num1, v1, v2, v3, v4, v5, v6, v7, v8, v9, v10⟩ | ⟨w0, code1, size1, u1, k3, g3, st1, sp1, sgn1, len1, nx1, num1, ma1, v1, v2, v3, v4⟩
      · have he3 := v5.1
        have he3n : e2 ≤ n := t3.se.2.1
        obtain ⟨code2, size2, c1, c2⟩ := c_op (o := o) v7 (by rw [List.length_append, List.length_singleton]; omega)
        obtain ⟨sgn2, len2, m1, m2⟩ := m_op (o := o) v8 hk (by rw [List.length_append, List.length_singleton]; omega)
        have hstep : SBl bytes n (code, size, nn u, kind, sign, (0 : Int32), nn s, nn e, w, nn q) = some (.inl (code2, size2, nn (u + 1), k3, g3, 0, nn s3, nn e3, w, nn (q + 1))) := by
          refine c_close hco hx ht hs hbc (by omega) ?_
          unfold f6_readSum_J115
          rw [he, t2, bnd4_s, v3, bnd9_s, if_neg (show ¬ (1 : Int32) = 0 by decide), if_neg (show ¬ (1 : Int32) = 0 by decide), c1, bnd2_s, lt_df, nn_succ]
        have hmstep : TBl tape (nn n) (nn k) (sgn, len, nn i, (0 : Int32), num, nn u) = some (.inl (sgn2, len2, nn e2, 0, num1, nn (u + 1))) := by
          rw [m_termOn hco hx h hs hbc]
          unfold f12_term_J74
          rw [nn_succ, lt_df, v4, bnd7_s, if_neg (show ¬ (1 : Int32) = 0 by decide), m1, bnd2_s]
        have hlen2 : (its ++ [it] ++ [(2, o)]).length = its.length + 2 := by rw [List.length_append, List.length_append]; rfl
        rcases ih e2 s3 e3 (u + 1) (q + 1) p k3 g3 num1 w code2 sgn2 len2 size2 (its ++ [it] ++ [(2, o)]) (by omega) (by rw [hlen2]; omega) (by omega) (by omega) v5 v6 c2 m2 with ⟨c', q1, u1, s1, e1, k1, g1, num3, size3, code3, sgn3, len3, its2, x1, x2, x3, x4, x5, x6, x7, x8, x9, x10, x11, x12, x13⟩ | ⟨c', w0, code3, size3, u1, k1, g1, st1, sp1, sgn3, len3, nx1, num3, ma1, x1, x2, x3, x4, x5⟩
        · left
          have happ : its ++ [it] ++ [(2, o)] ++ its2 = its ++ ([it] ++ [(2, o)] ++ its2) := by rw [List.append_assoc, List.append_assoc, List.append_assoc]
          rw [hlen2] at x4
          refine ⟨c' + 1, q1, u1, s1, e1, k1, g1, num3, size3, code3, sgn3, len3, [it] ++ [(2, o)] ++ its2, by omega, x2, x3, by rw [List.length_append, List.length_append]; show its.length + (1 + 1 + its2.length) + p ≤ s1; omega, ?_, fun fr hfr => ?_, fun f => ?_, x8, x9, x10, by rw [← happ]; exact x11, by rw [← happ]; exact x12, fun B hB => ?_⟩
          · rw [cntP_app, cntP_app, v10, x5]
            show u + 1 + cntP its2 = u + (1 + 0 + cntP its2)
            omega
          · obtain ⟨fr, rfl⟩ : ∃ f, fr = f + 1 := ⟨fr - 1, by omega⟩
            rw [iter_l hmstep fr]
            exact x6 fr (by omega)
          · show iter (SBl bytes n) (f + c' + 1) _ = _
            rw [iter_l hstep (f + c')]
            exact x7 f
          · have h2 : SgS (B ++ [it] ++ [(2, o)]) := SgS.op (by omega) (by omega) (by omega) hB v9
            have := x13 _ h2
            rw [show B ++ ([it] ++ [(2, o)] ++ its2) = B ++ [it] ++ [(2, o)] ++ its2 by rw [List.append_assoc, List.append_assoc, List.append_assoc]]
            exact this
        · right
          refine ⟨c' + 1, w0, code3, size3, u1, k1, g1, st1, sp1, sgn3, len3, nx1, num3, ma1, x1, x2, by omega, fun fr hfr => ?_, fun f => ?_⟩
          · obtain ⟨fr, rfl⟩ : ∃ f, fr = f + 1 := ⟨fr - 1, by omega⟩
            rw [iter_l hmstep fr]
            exact x4 fr (by omega)
          · show iter (SBl bytes n) (f + c' + 1 + 1) _ = _
            rw [iter_l hstep (f + c' + 1)]
            exact x5 f
      · right
        refine ⟨0, w0, code1, size1, u1, k3, g3, st1, sp1, sgn1, len1, nx1, num1, ma1, v1, v2, by omega, fun fr hfr => ?_, fun f => ?_⟩
        · obtain ⟨fr, rfl⟩ : ∃ f, fr = f + 1 := ⟨fr - 1, by omega⟩
          refine iter_r ?_ fr
          rw [m_termOn hco hx h hs hbc]
          unfold f12_term_J74
          rw [nn_succ, lt_df, v4, bnd7_s, if_pos rfl]
        · refine iter_r ?_ f
          refine c_close hco hx ht hs hbc (by omega) ?_
          unfold f6_readSum_J115
          rw [he, t2, bnd4_s, v3, bnd9_s, if_pos rfl]
    · have hb : s < n → b s ≠ 42 ∧ b s ≠ 47 ∧ b s ≠ 37 := fun hs => ⟨fun h => hop ⟨hs, Or.inl h⟩, fun h => hop ⟨hs, Or.inr (Or.inl h)⟩, fun h => hop ⟨hs, Or.inr (Or.inr h)⟩⟩
      left
      refine ⟨0, q, u, s, e, kind, sign, num, size, code, sgn, len, [], by omega, by omega, hu, by show its.length + 0 + p ≤ s; omega, rfl, fun fr hfr => ?_, fun f => rfl, hb, h.mid, ht, by rw [List.append_nil]; exact hC, by rw [List.append_nil]; exact hM, fun B hB => by rw [List.append_nil]; exact hB⟩
      obtain ⟨fr, rfl⟩ : ∃ f, fr = f + 1 := ⟨fr - 1, by omega⟩
      exact iter_r (m_termEnd hx h hb) fr
/-- what the class has laid of a sum, with its + or - still waiting, and what the reference has -/
def SS (pre : List (Nat × Nat)) (w : Int32) (ic ir : List (Nat × Nat)) : Prop := (w = -1 ∧ ir = ic ∧ ∃ A, ic = pre ++ A ∧ SgS A) ∨ (∃ (o : Nat) (A B : List (Nat × Nat)), (o = 2 ∨ o = 3) ∧ w = nn (opC o) ∧ ic = pre ++ A ++ B ∧ SgS A ∧ SgS B ∧ ir = ic ++ [(2, o)])
theorem SS.all {pre ic ir : List (Nat × Nat)} {w : Int32} (h : SS pre w ic ir) : ∃ A, ir = pre ++ A ∧ SgS A := by
  rcases h with ⟨-, rfl, h⟩ | ⟨o, A, B, h1, -, rfl, h4, h5, rfl⟩
  · exact h
  · refine ⟨A ++ B ++ [(2, o)], by rw [List.append_assoc, List.append_assoc, List.append_assoc], SgS.op (by omega) (by omega) (by omega) h4 h5⟩
theorem SS.cnt {pre ic ir : List (Nat × Nat)} {w : Int32} (h : SS pre w ic ir) : cntP ir = cntP ic ∧ ic.length ≤ ir.length := by
  rcases h with ⟨-, rfl, h⟩ | ⟨o, A, B, h1, -, rfl, h4, h5, rfl⟩
  · exact ⟨rfl, Nat.le_refl _⟩
  · refine ⟨by rw [cntP_app]; rfl, ?_⟩
    rw [List.length_append (bs := [(2, o)])]
    omega
theorem c_wait {pre ic ir : List (Nat × Nat)} {w : Int32} (h : SS pre w ic ir) (hC : CC code size ic) (hl : ir.length ≤ 400) : ∃ code1 size1, f6_emitWaiting code size w = some (code1, size1) ∧ CC code1 size1 ir := by
  unfold f6_emitWaiting
  rcases h with ⟨rfl, rfl, h⟩ | ⟨o, A, B, h1, rfl, -, h4, h5, rfl⟩
  · rw [if_pos rfl]; exact ⟨_, _, rfl, hC⟩
  · have ho := opC_lt o
    obtain ⟨code1, size1, c1, c2⟩ := c_op (o := o) hC (by rw [List.length_append, List.length_singleton] at hl; omega)
    rw [if_neg (nn_ne_m1 (by omega)), c1, bnd2_s]
    exact ⟨_, _, rfl, c2⟩
theorem m_sumEnd {num : Int32} (hx : TX b bytes tape n) (h : Rn isSp b n i s) (hb : s < n → b s ≠ 43 ∧ b s ≠ 45) : SRl tape (nn n) (nn k) (sgn, len, nn i, (0 : Int32), num, nn u) = some (.inr (.inr (sgn, len, nn s, 0, num, nn u))) := by
  unfold SRl f12_sum_B9
  dsimp only
  rw [m_see hx h, bnd2_s, if_neg (show ¬ (if s < n then nn (b s) else (-1 : Int32)) = 43 from seeV (c := 43) hx (by decide) (fun q => (hb q.1).1 q.2)), m_see hx h.mid, bnd2_s, if_neg (show ¬ (if s < n then nn (b s) else (-1 : Int32)) = 45 from seeV (c := 45) hx (by decide) (fun q => (hb q.1).2 q.2))]
theorem m_sumOn {c o : Nat} {num : Int32} (hco : (c = 43 ∧ o = 2) ∨ (c = 45 ∧ o = 3)) (hx : TX b bytes tape n) (h : Rn isSp b n i s) (hs : s < n) (hb : b s = c) : SRl tape (nn n) (nn k) (sgn, len, nn i, (0 : Int32), num, nn u) = f12_sum_J46 tape (nn n) (nn k) sgn len (nn s) 0 num (nn u) (nn o) := by
  obtain ⟨q1, q2, q3⟩ := hx.2 s hs
  have hn := hx.1
  have hv : (if s < n then nn (b s) else (-1 : Int32)) = nn c := by rw [if_pos hs, hb]
  have ht : tape s = nn c := by rw [q3, hb]; exact sb_lo c (by omega)
  have h27 : f12_sum_J27 tape (nn n) (nn k) sgn len (nn s) 0 num (nn u) = f12_sum_J46 tape (nn n) (nn k) sgn len (nn s) 0 num (nn u) (nn o) := by
    unfold f12_sum_J27
    rw [nn_nat (show s < 2147483648 by omega), if_neg (ng (by omega) (by omega)), ht]
    rcases hco with ⟨rfl, rfl⟩ | ⟨rfl, rfl⟩
    · rw [if_pos (show nn 43 = 43 from rfl)]; rfl
    · rw [if_neg (show ¬ nn 45 = 43 by decide)]; rfl
  unfold SRl f12_sum_B9
  dsimp only
  rw [m_see hx h, bnd2_s, hv]
  rcases hco with ⟨rfl, rfl⟩ | ⟨rfl, rfl⟩
  · rw [if_pos (show nn 43 = 43 from rfl)]; exact h27
  · rw [if_neg (show ¬ nn 45 = 43 by decide), m_see hx h.mid, bnd2_s, hv, if_pos (show nn 45 = 45 from rfl)]; exact h27
theorem r_sumL (hk : k < 6) (hx : TX b bytes tape n) : ∀ (d i s e u q p : Nat) (kind sign num w : Int32) (code sgn len : Nat → Int32) (size : Int32) (pre ic ir : List (Nat × Nat)), n - i ≤ d → ir.length + p ≤ i → q ≤ i → u ≤ 60 → Rn isSp b n i s → Tk b n s kind sign e → CC code size ic → CM k sg0 sgn len ir → SS pre w ic ir → (s < n → b s ≠ 42 ∧ b s ≠ 47 ∧ b s ≠ 37) →
    (∃ (c q1 u1 s1 e1 : Nat) (k1 g1 num1 size1 w1 : Int32) (code1 sgn1 len1 : Nat → Int32) (ic1 ir1 : List (Nat × Nat)), c + i ≤ s1 ∧ u1 ≤ 60 ∧ ir1.length + p ≤ s1 ∧ u1 + cntP ic = u + cntP ic1 ∧ (∀ fr, d < fr → iter (SRl tape (nn n) (nn k)) fr (sgn, len, nn i, (0 : Int32), num, nn u) = some (.inr (sgn1, len1, nn s1, 0, num1, nn u1))) ∧ (∀ f, iter (SBl bytes n) (f + c) (code, size, nn u, kind, sign, (0 : Int32), nn s, nn e, w, nn q) = iter (SBl bytes n) f (code1, size1, nn u1, k1, g1, (0 : Int32), nn s1, nn e1, w1, nn q1)) ∧ (s1 < n → b s1 ≠ 42 ∧ b s1 ≠ 47 ∧ b s1 ≠ 37 ∧ b s1 ≠ 43 ∧ b s1 ≠ 45) ∧ Rn isSp b n s1 s1 ∧ Tk b n s1 k1 g1 e1 ∧ CC code1 size1 ic1 ∧ CM k sg0 sgn1 len1 ir1 ∧ SS pre w1 ic1 ir1) ∨
    (∃ (c w0 : Nat) (code1 : Nat → Int32) (size1 u1 k1 g1 st1 sp1 : Int32) (sgn1 len1 : Nat → Int32) (nx1 num1 ma1 : Int32), 0 < w0 ∧ (w0 < 5000 ∧ 0 ≤ size1 ∧ FR k sg0 sgn1) ∧ c + i ≤ n ∧ (∀ fr, d < fr → iter (SRl tape (nn n) (nn k)) fr (sgn, len, nn i, (0 : Int32), num, nn u) = some (.inl (0, sgn1, len1, nx1, nn w0, num1, ma1))) ∧ ∀ f, iter (SBl bytes n) (f + c + 1) (code, size, nn u, kind, sign, (0 : Int32), nn s, nn e, w, nn q) = some (.inl (0, code1, size1, u1, k1, g1, nn w0, st1, sp1))) := by
  have endL : ∀ (d i s e u q p : Nat) (kind sign num w : Int32) (code sgn len : Nat → Int32) (size : Int32) (pre ic ir : List (Nat × Nat)), ir.length + p ≤ i → u ≤ 60 → Rn isSp b n i s → Tk b n s kind sign e → CC code size ic → CM k sg0 sgn len ir → SS pre w ic ir → (s < n → b s ≠ 42 ∧ b s ≠ 47 ∧ b s ≠ 37 ∧ b s ≠ 43 ∧ b s ≠ 45) → (∃ (c q1 u1 s1 e1 : Nat) (k1 g1 num1 size1 w1 : Int32) (code1 sgn1 len1 : Nat → Int32) (ic1 ir1 : List (Nat × Nat)), c + i ≤ s1 ∧ u1 ≤ 60 ∧ ir1.length + p ≤ s1 ∧ u1 + cntP ic = u + cntP ic1 ∧ (∀ fr, d < fr → iter (SRl tape (nn n) (nn k)) fr (sgn, len, nn i, (0 : Int32), num, nn u) = some (.inr (sgn1, len1, nn s1, 0, num1, nn u1))) ∧ (∀ f, iter (SBl bytes n) (f + c) (code, size, nn u, kind, sign, (0 : Int32), nn s, nn e, w, nn q) = iter (SBl bytes n) f (code1, size1, nn u1, k1, g1, (0 : Int32), nn s1, nn e1, w1, nn q1)) ∧ (s1 < n → b s1 ≠ 42 ∧ b s1 ≠ 47 ∧ b s1 ≠ 37 ∧ b s1 ≠ 43 ∧ b s1 ≠ 45) ∧ Rn isSp b n s1 s1 ∧ Tk b n s1 k1 g1 e1 ∧ CC code1 size1 ic1 ∧ CM k sg0 sgn1 len1 ir1 ∧ SS pre w1 ic1 ir1) := by
    intro d i s e u q p kind sign num w code sgn len size pre ic ir hl hu h ht hC hM hS hb
    have his := h.1
    refine ⟨0, q, u, s, e, kind, sign, num, size, w, code, sgn, len, ic, ir, by omega, hu, by omega, rfl, fun fr hfr => ?_, fun f => rfl, hb, h.mid, ht, hC, hM, hS⟩
    obtain ⟨fr, rfl⟩ : ∃ f, fr = f + 1 := ⟨fr - 1, by omega⟩
    exact iter_r (m_sumEnd hx h (fun q => ⟨(hb q).2.2.2.1, (hb q).2.2.2.2⟩)) fr
  intro d
  induction d with
  | zero =>
    intro i s e u q p kind sign num w code sgn len size pre ic ir hd hl hq hu h ht hC hM hS hb
    have hsn : ¬ s < n := by have := h.1; omega
    exact Or.inl (endL 0 i s e u q p kind sign num w code sgn len size pre ic ir hl hu h ht hC hM hS (fun q => absurd q hsn))
  | succ d ih =>
    intro i s e u q p kind sign num w code sgn len size pre ic ir hd hl hq hu h ht hC hM hS hb
    have his := h.1
    have hn := hx.1
    by_cases hop : s < n ∧ (b s = 43 ∨ b s = 45)
    · obtain ⟨hs, hop⟩ := hop
      obtain ⟨c, o, hbc, hco⟩ : ∃ c o, b s = c ∧ ((c = 43 ∧ o = 2) ∨ (c = 45 ∧ o = 3)) := by
        rcases hop with h | h
        · exact ⟨43, 2, h, Or.inl ⟨rfl, rfl⟩⟩
        · exact ⟨45, 3, h, Or.inr ⟨rfl, rfl⟩⟩
      have he : e = s + 1 := by
        rcases ht.isAt (c := c) hx (by omega) (by rcases hco with ⟨rfl, -⟩ | ⟨rfl, -⟩ <;> decide) (by rcases hco with ⟨rfl, -⟩ | ⟨rfl, -⟩ <;> decide) (by omega) (by omega) with ⟨-, -, h3, -⟩ | ⟨h1, -⟩
        · exact h3
        · exact absurd hbc (h1 hs)
      obtain ⟨A, hA1, hA2⟩ := hS.all
      obtain ⟨code0, size0, w1, w2⟩ := c_wait hS hC (by omega)
      obtain ⟨s2, k2, g2, e2, t1, t2, t3⟩ := next_tk (kind := kind) (sign := sign) (i := s + 1) (nn s) hx (by omega)
      have hs2 := t1.1
      rcases r_value (fault := 0) (num := num) hk hx t1 t3 w2 hM hu (by omega) with ⟨s3, k3, g3, e3, it, code1, size1, sgn1, len1, num1, v1, v2, v3, v4, v5, v6, v7, v8, v9, v10⟩ | ⟨w0, code1, size1, u1, k3, g3, st1, sp1, sgn1, len1, nx1, num1, ma1, v1, v2, v3, v4⟩
      · have he3 := v5.1
        have he3n : e2 ≤ n := t3.se.2.1
        have hstep : SBl bytes n (code, size, nn u, kind, sign, (0 : Int32), nn s, nn e, w, nn q) = some (.inl (code1, size1, nn (u + 1), k3, g3, 0, nn s3, nn e3, nn (opC o), nn (q + 1))) := by
          refine c_plus hco hx ht hs hbc (by omega) ?_
          rw [w1, bnd2_s]
          unfold f6_readSum_J115
          rw [he, t2, bnd4_s, v3, bnd9_s, if_neg (show ¬ (1 : Int32) = 0 by decide), if_pos rfl, lt_df, nn_succ]
        have hlen1 : (ir ++ [it]).length = ir.length + 1 := by rw [List.length_append]; rfl
        have hfu : 400 < FUEL := fuel_400 (by decide)
        rcases r_termL hk hx 400 e2 s3 e3 (u + 1) (q + 1) (p + 1) k3 g3 num1 (nn (opC o)) code1 sgn1 len1 size1 (ir ++ [it]) (by omega) (by rw [hlen1]; omega) (by omega) (by omega) v5 v6 v7 v8 with ⟨c', q1, u1, s1, e1, k1, g1, num3, size3, code3, sgn3, len3, its2, x1, x2, x3, x4, x5, x6, x7, x8, x9, x10, x11, x12, x13⟩ | ⟨c', w0, code3, size3, u1, k1, g1, st1, sp1, sgn3, len3, nx1, num3, ma1, x1, x2, x3, x4, x5⟩
        · rw [hlen1] at x4
          have hs1n := x10.se.2.2
          obtain ⟨sgn4, len4, m1, m2⟩ := m_op (o := o) x12 hk (by rw [List.length_append, hlen1]; omega)
          have hterm : f12_term tape (nn n) sgn len (nn (s + 1)) 0 num (nn k) (nn u) = some (1, sgn3, len3, nn s1, 0, num3, nn u1) := by
            unfold f12_term
            rw [v4, bnd7_s, if_neg (show ¬ (1 : Int32) = 0 by decide)]
            have := x6 FUEL hfu
            unfold TBl at this
            rw [this, bndS6_r]
          have hmstep : SRl tape (nn n) (nn k) (sgn, len, nn i, (0 : Int32), num, nn u) = some (.inl (sgn4, len4, nn s1, 0, num3, nn u1)) := by
            rw [m_sumOn hco hx h hs hbc]
            unfold f12_sum_J46
            rw [nn_succ, lt_df, hterm, bnd7_s, if_neg (show ¬ (1 : Int32) = 0 by decide), m1, bnd2_s]
          have hSS : SS pre (nn (opC o)) (ir ++ [it] ++ its2) (ir ++ [it] ++ its2 ++ [(2, o)]) := Or.inr ⟨o, A, [it] ++ its2, by omega, rfl, by rw [hA1]; simp only [List.append_assoc], hA2, x13 _ v9, rfl⟩
          have hlen4 : (ir ++ [it] ++ its2 ++ [(2, o)]).length = ir.length + 1 + its2.length + 1 := by rw [List.length_append, List.length_append, hlen1]; rfl
          rcases ih s1 s1 e1 u1 q1 p k1 g1 num3 (nn (opC o)) code3 sgn4 len4 size3 pre _ _ (by omega) (by rw [hlen4]; omega) x2 x3 x9 x10 x11 m2 hSS x8 with ⟨c2, q2, u2, s4, e4, k4, g4, num4, size4, w4, code4, sgn5, len5, ic5, ir5, y1, y2, y3, y4, y5, y6, y7, y8, y9, y10, y11, y12⟩ | ⟨c2, w0, code4, size4, u2, k4, g4, st4, sp4, sgn5, len5, nx4, num4, ma4, y1, y2, y3, y4, y5⟩
          · left
            have hcnt := hS.cnt
            refine ⟨c2 + c' + 1, q2, u2, s4, e4, k4, g4, num4, size4, w4, code4, sgn5, len5, ic5, ir5, by omega, y2, y3, ?_, fun fr hfr => ?_, fun f => ?_, y7, y8, y9, y10, y11, y12⟩
            · rw [cntP_app, cntP_app, v10] at y4
              omega
            · obtain ⟨fr, rfl⟩ : ∃ f, fr = f + 1 := ⟨fr - 1, by omega⟩
              rw [iter_l hmstep fr]
              exact y5 fr (by omega)
            · rw [show f + (c2 + c' + 1) = f + c2 + c' + 1 by omega, iter_l hstep (f + c2 + c'), x7 (f + c2)]
              exact y6 f
          · right
            refine ⟨c2 + c' + 1, w0, code4, size4, u2, k4, g4, st4, sp4, sgn5, len5, nx4, num4, ma4, y1, y2, by omega, fun fr hfr => ?_, fun f => ?_⟩
            · obtain ⟨fr, rfl⟩ : ∃ f, fr = f + 1 := ⟨fr - 1, by omega⟩
              rw [iter_l hmstep fr]
              exact y4 fr (by omega)
            · rw [show f + (c2 + c' + 1) + 1 = (f + c2 + 1) + c' + 1 by omega, iter_l hstep ((f + c2 + 1) + c'), x7 (f + c2 + 1)]
              exact y5 f
        · right
          refine ⟨c' + 1, w0, code3, size3, u1, k1, g1, st1, sp1, sgn3, len3, nx1, num3, ma1, x1, x2, by omega, fun fr hfr => ?_, fun f => ?_⟩
          · obtain ⟨fr, rfl⟩ : ∃ f, fr = f + 1 := ⟨fr - 1, by omega⟩
            refine iter_r ?_ fr
            have hterm : f12_term tape (nn n) sgn len (nn (s + 1)) 0 num (nn k) (nn u) = some (0, sgn3, len3, nx1, nn w0, num3, ma1) := by
              unfold f12_term
              rw [v4, bnd7_s, if_neg (show ¬ (1 : Int32) = 0 by decide)]
              have := x4 FUEL hfu
              unfold TBl at this
              rw [this, bndS6_l]
            rw [m_sumOn hco hx h hs hbc]
            unfold f12_sum_J46
            rw [nn_succ, lt_df, hterm, bnd7_s, if_pos rfl]
          · rw [show f + (c' + 1) + 1 = (f + c' + 1) + 1 by omega, iter_l hstep (f + c' + 1)]
            exact x5 f
      · right
        refine ⟨0, w0, code1, size1, u1, k3, g3, st1, sp1, sgn1, len1, nx1, num1, ma1, v1, v2, by omega, fun fr hfr => ?_, fun f => ?_⟩
        · obtain ⟨fr, rfl⟩ : ∃ f, fr = f + 1 := ⟨fr - 1, by omega⟩
          refine iter_r ?_ fr
          have hterm : f12_term tape (nn n) sgn len (nn (s + 1)) 0 num (nn k) (nn u) = some (0, sgn1, len1, nx1, nn w0, num1, ma1) := by
            unfold f12_term
            rw [v4, bnd7_s, if_pos rfl]
          rw [m_sumOn hco hx h hs hbc]
          unfold f12_sum_J46
          rw [nn_succ, lt_df, hterm, bnd7_s, if_pos rfl]
        · refine iter_r ?_ f
          refine c_plus hco hx ht hs hbc (by omega) ?_
          rw [w1, bnd2_s]
          unfold f6_readSum_J115
          rw [he, t2, bnd4_s, v3, bnd9_s, if_pos rfl]
    · exact Or.inl (endL (d + 1) i s e u q p kind sign num w code sgn len size pre ic ir hl hu h ht hC hM hS (fun hs => ⟨(hb hs).1, (hb hs).2.1, (hb hs).2.2, fun h => hop ⟨hs, Or.inl h⟩, fun h => hop ⟨hs, Or.inr h⟩⟩))
/-- a sum -/
theorem r_sum {kind sign num : Int32} {p : Nat} (hk : k < 6) (hx : TX b bytes tape n) (h : Rn isSp b n i s) (ht : Tk b n s kind sign e) (hC : CC code size its) (hM : CM k sg0 sgn len its) (hu : u ≤ 60) (hl : its.length + p ≤ i) :
    (∃ (s1 e1 u1 : Nat) (k1 g1 num1 size1 : Int32) (code1 sgn1 len1 : Nat → Int32) (A : List (Nat × Nat)), i < s1 ∧ u1 ≤ 60 ∧ u1 = u + cntP A ∧ its.length + A.length + p ≤ s1 ∧ f6_readSum code size (nn u) bytes (nn n) kind sign 0 (nn s) (nn e) = some (1, code1, size1, nn u1, k1, g1, 0, nn s1, nn e1) ∧ f12_sum tape (nn n) sgn len (nn i) 0 num (nn k) (nn u) = some (1, sgn1, len1, nn s1, 0, num1, nn u1) ∧ Rn isSp b n s1 s1 ∧ Tk b n s1 k1 g1 e1 ∧ CC code1 size1 (its ++ A) ∧ CM k sg0 sgn1 len1 (its ++ A) ∧ SgS A) ∨
    (∃ (w : Nat) (code1 : Nat → Int32) (size1 u1 k1 g1 st1 sp1 : Int32) (sgn1 len1 : Nat → Int32) (nx1 num1 ma1 : Int32), 0 < w ∧ (w < 5000 ∧ 0 ≤ size1 ∧ FR k sg0 sgn1) ∧ f6_readSum code size (nn u) bytes (nn n) kind sign 0 (nn s) (nn e) = some (0, code1, size1, u1, k1, g1, nn w, st1, sp1) ∧ f12_sum tape (nn n) sgn len (nn i) 0 num (nn k) (nn u) = some (0, sgn1, len1, nx1, nn w, num1, ma1)) := by
  have hn := hx.1
  have his := h.1
  have hF : 400 < FUEL := fuel_400 (by decide)
  have hF2 : ∀ c, c ≤ 900 → ∃ f, FUEL = f + c := fun c hc => ⟨FUEL - c, by have : 1000 ≤ FUEL := (by decide); omega⟩
  unfold f6_readSum f12_sum f12_term
  rcases r_value (fault := 0) (num := num) hk hx h ht hC hM hu (by omega) with ⟨s3, k3, g3, e3, it, code1, size1, sgn1, len1, num1, v1, v2, v3, v4, v5, v6, v7, v8, v9, v10⟩ | ⟨w0, code1, size1, u1, k3, g3, st1, sp1, sgn1, len1, nx1, num1, ma1, v1, v2, v3, v4⟩
  · have hes := ht.se
    have hlen1 : (its ++ [it]).length = its.length + 1 := by rw [List.length_append]; rfl
    rcases r_termL hk hx 400 e s3 e3 (u + 1) 0 p k3 g3 num1 (-1) code1 sgn1 len1 size1 (its ++ [it]) (by omega) (by rw [hlen1]; omega) (by omega) (by omega) v5 v6 v7 v8 with ⟨c', q1, u1, s1, e1, k1, g1, num3, size3, code3, sgn3, len3, its2, x1, x2, x3, x4, x5, x6, x7, x8, x9, x10, x11, x12, x13⟩ | ⟨c', w0, code3, size3, u1, k1, g1, st1, sp1, sgn3, len3, nx1, num3, ma1, x1, x2, x3, x4, x5⟩
    · rw [hlen1] at x4
      have hs1n := x10.se.2.2
      have hxx6 := x6 FUEL hF
      unfold TBl at hxx6
      have hSS : SS its (-1) (its ++ [it] ++ its2) (its ++ [it] ++ its2) := Or.inl ⟨rfl, rfl, [it] ++ its2, by rw [List.append_assoc], x13 _ v9⟩
      rcases r_sumL hk hx 400 s1 s1 e1 u1 q1 p k1 g1 num3 (-1) code3 sgn3 len3 size3 its _ _ (by omega) (by rw [List.length_append, hlen1]; omega) x2 x3 x9 x10 x11 x12 hSS x8 with ⟨c2, q2, u2, s4, e4, k4, g4, num4, size4, w4, code4, sgn5, len5, ic5, ir5, y1, y2, y3, y4, y5, y6, y7, y8, y9, y10, y11, y12⟩ | ⟨c2, w0, code4, size4, u2, k4, g4, st4, sp4, sgn5, len5, nx4, num4, ma4, y1, y2, y3, y4, y5⟩
      · left
        have hs4n := y9.se.2.2
        obtain ⟨A, hA1, hA2⟩ := y12.all
        obtain ⟨code6, size6, w1, w2⟩ := c_wait y12 y10 (by omega)
        have hyy5 := y5 FUEL hF
        unfold SRl at hyy5
        obtain ⟨f, hf⟩ := hF2 (1 + c2 + c') (by omega)
        have hcl : iter (SBl bytes n) FUEL (code1, size1, nn (u + 1), k3, g3, (0 : Int32), nn s3, nn e3, -1, 0) = some (.inr (code4, size4, nn u2, k4, g4, 0, nn s4, nn e4, w4)) := by
          rw [hf, show f + (1 + c2 + c') = f + 1 + c2 + c' by omega]
          rw [show iter (SBl bytes n) (f + 1 + c2 + c') (code1, size1, nn (u + 1), k3, g3, (0 : Int32), nn s3, nn e3, -1, 0) = _ from x7 (f + 1 + c2), y6 (f + 1)]
          exact iter_r (c_sumEnd hx y9 y7) f
        unfold SBl at hcl
        have hcnt := y12.cnt
        refine ⟨s4, e4, u2, k4, g4, num4, size6, code6, sgn5, len5, A, by omega, y2, ?_, ?_, ?_, ?_, y8, y9, by rw [← hA1]; exact w2, by rw [← hA1]; exact y11, hA2⟩
        · rw [cntP_app, cntP_app, v10] at y4
          rw [hA1, cntP_app] at hcnt
          omega
        · rw [hA1, List.length_append] at y3
          omega
        · rw [v3, bnd9_s, if_neg (show ¬ (1 : Int32) = 0 by decide), hcl, bndS9_r, w1, bnd2_s]
        · rw [v4, bnd7_s, if_neg (show ¬ (1 : Int32) = 0 by decide), hxx6, bndS6_r, bnd7_s, if_neg (show ¬ (1 : Int32) = 0 by decide), hyy5, bndS6_r]
      · right
        have hyy4 := y4 FUEL hF
        unfold SRl at hyy4
        obtain ⟨f, hf⟩ := hF2 (c2 + 1 + c') (by omega)
        have hcl : iter (SBl bytes n) FUEL (code1, size1, nn (u + 1), k3, g3, (0 : Int32), nn s3, nn e3, -1, 0) = some (.inl (0, code4, size4, u2, k4, g4, nn w0, st4, sp4)) := by
          rw [hf, show f + (c2 + 1 + c') = f + c2 + 1 + c' by omega]
          rw [show iter (SBl bytes n) (f + c2 + 1 + c') (code1, size1, nn (u + 1), k3, g3, (0 : Int32), nn s3, nn e3, -1, 0) = _ from x7 (f + c2 + 1)]
          exact y5 f
        unfold SBl at hcl
        refine ⟨w0, code4, size4, u2, k4, g4, st4, sp4, sgn5, len5, nx4, num4, ma4, y1, y2, ?_, ?_⟩
        · rw [v3, bnd9_s, if_neg (show ¬ (1 : Int32) = 0 by decide), hcl, bndS9_l]
        · rw [v4, bnd7_s, if_neg (show ¬ (1 : Int32) = 0 by decide), hxx6, bndS6_r, bnd7_s, if_neg (show ¬ (1 : Int32) = 0 by decide), hyy4, bndS6_l]
    · right
      have hxx4 := x4 FUEL hF
      unfold TBl at hxx4
      obtain ⟨f, hf⟩ := hF2 (c' + 1) (by omega)
      have hcl : iter (SBl bytes n) FUEL (code1, size1, nn (u + 1), k3, g3, (0 : Int32), nn s3, nn e3, -1, 0) = some (.inl (0, code3, size3, u1, k1, g1, nn w0, st1, sp1)) := by
        rw [hf]
        exact x5 f
      unfold SBl at hcl
      refine ⟨w0, code3, size3, u1, k1, g1, st1, sp1, sgn3, len3, nx1, num3, ma1, x1, x2, ?_, ?_⟩
      · rw [v3, bnd9_s, if_neg (show ¬ (1 : Int32) = 0 by decide), hcl, bndS9_l]
      · rw [v4, bnd7_s, if_neg (show ¬ (1 : Int32) = 0 by decide), hxx4, bndS6_l, bnd7_s, if_pos rfl]
  · right
    refine ⟨w0, code1, size1, u1, k3, g3, st1, sp1, sgn1, len1, nx1, num1, ma1, v1, v2, ?_, ?_⟩
    · rw [v3, bnd9_s, if_pos rfl]
    · rw [v4, bnd7_s, if_pos rfl, bnd7_s, if_pos rfl]
end
