/-! a rule's text: a clause -/
abbrev CLS : Type := List (List (Nat × Nat) × List (Nat × Nat))
theorem flt_snoc {cs : CLS} {A T : List (Nat × Nat)} : flt (cs ++ [(A, T)]) = flt cs ++ (A ++ T) := by
  unfold flt
  rw [List.flatMap_append]
  simp
theorem off_snoc {cs : CLS} {x : List (Nat × Nat) × List (Nat × Nat)} {c : Nat} (h : c ≤ cs.length) : off (cs ++ [x]) c = off cs c := by
  unfold off
  rw [List.take_append_of_le_length h]
theorem off_all {cs : CLS} : off cs cs.length = (flt cs).length := by
  unfold off
  rw [List.take_length]
theorem SgT_ne {A : List (Nat × Nat)} (h : SgT A) : A ≠ [] := by
  intro e
  rw [e] at h
  obtain ⟨v, -, h2⟩ := h.2 (fun _ => 0)
  have := h2 []
  cases this
def RTc (cs : CLS) (code sumEnd testEnd : Nat → Int32) (size : Int32) : Prop := CC code size (flt cs) ∧ ∀ c (h : c < cs.length), sumEnd c = nn (off cs c + cs[c].1.length) ∧ testEnd c = nn (off cs (c + 1))
def FRc (k : Nat) (cl0 cls0 clause clauses : Nat → Int32) : Prop := (∀ x, ¬ (48 * k ≤ x ∧ x < 48 * k + 48) → clause x = cl0 x) ∧ ∀ x, x ≠ k → clauses x = cls0 x
def RTm (cs : CLS) (k : Nat) (sg0 cl0 cls0 sgn len clause clauses : Nat → Int32) : Prop := CM k sg0 sgn len (flt cs) ∧ clauses k = nn cs.length ∧ (∀ c (h : c < cs.length), clause (48 * k + 4 * c) = nn (off cs c) ∧ clause (48 * k + 4 * c + 1) = nn (off cs c + cs[c].1.length) ∧ clause (48 * k + 4 * c + 2) = (if cs[c].2 = [] then -1 else nn (off cs c + cs[c].1.length)) ∧ clause (48 * k + 4 * c + 3) = nn (off cs (c + 1))) ∧ FRc k cl0 cls0 clause clauses
def RTo (cs : CLS) (u : Nat) : Prop := cntP (flt cs) ≤ u ∧ ∀ c, c ∈ cs → SgS c.1 ∧ (c.2 = [] ∨ SgT c.2)
section
variable {b : Nat → Nat} {bytes tape : Nat → Int32} {n i j s e k u : Nat} {sg0 cl0 cls0 : Nat → Int32}
theorem snocC {cs : CLS} {x : List (Nat × Nat) × List (Nat × Nat)} {Q : Nat → List (Nat × Nat) × List (Nat × Nat) → Prop} (h1 : ∀ c (h : c < cs.length), Q c cs[c]) (h2 : Q cs.length x) : ∀ c (h : c < (cs ++ [x]).length), Q c (cs ++ [x])[c] := by
  intro c h
  by_cases c2 : c < cs.length
  · rw [List.getElem_append_left c2]; exact h1 c c2
  · have : c = cs.length := by rw [List.length_append, List.length_singleton] at h; omega
    subst this
    rw [List.getElem_append_right (Nat.le_refl _)]
    simp only [Nat.sub_self, List.getElem_cons_zero]
    exact h2
theorem RTc.snoc {cs : CLS} {A T : List (Nat × Nat)} {code sumEnd testEnd code1 : Nat → Int32} {size size1 : Int32} (h : RTc cs code sumEnd testEnd size) (hC : CC code1 size1 (flt cs ++ (A ++ T))) : RTc (cs ++ [(A, T)]) code1 (upd sumEnd cs.length (nn ((flt cs).length + A.length))) (upd testEnd cs.length size1) size1 := by
  refine ⟨by rw [flt_snoc]; exact hC, snocC (Q := fun c x => upd sumEnd cs.length (nn ((flt cs).length + A.length)) c = nn (off (cs ++ [(A, T)]) c + x.1.length) ∧ upd testEnd cs.length size1 c = nn (off (cs ++ [(A, T)]) (c + 1))) (fun c hc => ?_) ?_⟩
  · rw [upd_ne (by omega), upd_ne (by omega), off_snoc (by omega), off_snoc (by omega)]
    exact h.2 c hc
  · have hl : cs.length + 1 = (cs ++ [(A, T)]).length := by rw [List.length_append]; rfl
    rw [upd_at, upd_at, off_snoc (Nat.le_refl _), off_all, hl, off_all, flt_snoc, hC.1]
    exact ⟨rfl, rfl⟩
theorem RTm.snoc {cs : CLS} {A T : List (Nat × Nat)} {sgn len clause clauses sgn1 len1 : Nat → Int32} {t : Int32} (h : RTm cs k sg0 cl0 cls0 sgn len clause clauses) (hcs : cs.length < 12) (hM : CM k sg0 sgn1 len1 (flt cs ++ (A ++ T))) (hT : t = if T = [] then -1 else nn ((flt cs).length + A.length)) : RTm (cs ++ [(A, T)]) k sg0 cl0 cls0 sgn1 len1 (upd (upd (upd (upd clause (48 * k + 4 * cs.length) (nn (flt cs).length)) (48 * k + 4 * cs.length + 1) (nn ((flt cs).length + A.length))) (48 * k + 4 * cs.length + 2) t) (48 * k + 4 * cs.length + 3) (nn (flt cs ++ (A ++ T)).length)) (upd clauses k (nn (cs.length + 1))) := by
  obtain ⟨g1, g2, g3, g4, g5⟩ := h
  refine ⟨by rw [flt_snoc]; exact hM, by rw [upd_at, List.length_append]; rfl, ?_, fun x hx => ?_, fun x hx => by rw [upd_ne hx]; exact g5 x hx⟩
  · refine snocC (Q := fun c x => (upd (upd (upd (upd clause (48 * k + 4 * cs.length) (nn (flt cs).length)) (48 * k + 4 * cs.length + 1) (nn ((flt cs).length + A.length))) (48 * k + 4 * cs.length + 2) t) (48 * k + 4 * cs.length + 3) (nn (flt cs ++ (A ++ T)).length)) (48 * k + 4 * c) = nn (off (cs ++ [(A, T)]) c) ∧ (upd (upd (upd (upd clause (48 * k + 4 * cs.length) (nn (flt cs).length)) (48 * k + 4 * cs.length + 1) (nn ((flt cs).length + A.length))) (48 * k + 4 * cs.length + 2) t) (48 * k + 4 * cs.length + 3) (nn (flt cs ++ (A ++ T)).length)) (48 * k + 4 * c + 1) = nn (off (cs ++ [(A, T)]) c + x.1.length) ∧ (upd (upd (upd (upd clause (48 * k + 4 * cs.length) (nn (flt cs).length)) (48 * k + 4 * cs.length + 1) (nn ((flt cs).length + A.length))) (48 * k + 4 * cs.length + 2) t) (48 * k + 4 * cs.length + 3) (nn (flt cs ++ (A ++ T)).length)) (48 * k + 4 * c + 2) = (if x.2 = [] then -1 else nn (off (cs ++ [(A, T)]) c + x.1.length)) ∧ (upd (upd (upd (upd clause (48 * k + 4 * cs.length) (nn (flt cs).length)) (48 * k + 4 * cs.length + 1) (nn ((flt cs).length + A.length))) (48 * k + 4 * cs.length + 2) t) (48 * k + 4 * cs.length + 3) (nn (flt cs ++ (A ++ T)).length)) (48 * k + 4 * c + 3) = nn (off (cs ++ [(A, T)]) (c + 1))) (fun c hc => ?_) ?_
    · rw [off_snoc (by omega), off_snoc (by omega)]
      have hne : ∀ d q, d < 4 → q < 4 → 48 * k + 4 * c + d ≠ 48 * k + 4 * cs.length + q := fun d q h1 h2 => by omega
      have h0 : ∀ d, d < 4 → (upd (upd (upd (upd clause (48 * k + 4 * cs.length) (nn (flt cs).length)) (48 * k + 4 * cs.length + 1) (nn ((flt cs).length + A.length))) (48 * k + 4 * cs.length + 2) t) (48 * k + 4 * cs.length + 3) (nn (flt cs ++ (A ++ T)).length)) (48 * k + 4 * c + d) = clause (48 * k + 4 * c + d) := fun d hd => by
        rw [upd_ne (hne d 3 hd (by decide)), upd_ne (hne d 2 hd (by decide)), upd_ne (hne d 1 hd (by decide)), upd_ne (show 48 * k + 4 * c + d ≠ 48 * k + 4 * cs.length by omega)]
      exact ⟨(h0 0 (by decide)).trans (g3 c hc).1, (h0 1 (by decide)).trans (g3 c hc).2.1, (h0 2 (by decide)).trans (g3 c hc).2.2.1, (h0 3 (by decide)).trans (g3 c hc).2.2.2⟩
    · have hl : cs.length + 1 = (cs ++ [(A, T)]).length := by rw [List.length_append]; rfl
      rw [upd_at, upd_ne (by omega), upd_ne (by omega), upd_ne (by omega), upd_at, upd_ne (by omega), upd_ne (by omega), upd_at, upd_ne (by omega), upd_at, off_snoc (Nat.le_refl _), off_all, hl, off_all, flt_snoc]
      exact ⟨rfl, rfl, hT, rfl⟩
  · rw [upd_ne (by omega), upd_ne (by omega), upd_ne (by omega), upd_ne (by omega)]
    exact g4 x hx
theorem RTo.snoc {cs : CLS} {A T : List (Nat × Nat)} {u1 : Nat} (h : RTo cs u) (hA : SgS A) (hT : T = [] ∨ SgT T) (hu : u + cntP A + cntP T ≤ u1) : RTo (cs ++ [(A, T)]) u1 := by
  refine ⟨by rw [flt_snoc, cntP_app, cntP_app]; have := h.1; omega, fun c hc => ?_⟩
  rcases List.mem_append.mp hc with h2 | h2
  · exact h.2 c h2
  · rw [List.mem_singleton.mp h2]; exact ⟨hA, hT⟩
theorem r_clauseR {m : Nat} {kind sign num de od : Int32} {code sumEnd testEnd sgn len clause clauses rd opn : Nat → Int32} {size : Int32} {cs : CLS} (hk : k < 6) (hx : TX b bytes tape n) (h : Rn isSp b n i s) (ht : Tk b n s kind sign e) (hm : cs.length = m) (hm12 : m ≤ 12) (hu : u ≤ 60) (hl : (flt cs).length ≤ i) (hC : RTc cs code sumEnd testEnd size) (hM : RTm cs k sg0 cl0 cls0 sgn len clause clauses) (hO : RTo cs u) :
    (∃ (s1 e1 i1 u1 : Nat) (k1 g1 num1 de1 od1 size1 : Int32) (code1 sumEnd1 sgn1 len1 clause1 clauses1 opn1 : Nat → Int32) (x : List (Nat × Nat) × List (Nat × Nat)), m < 12 ∧ i < i1 ∧ u1 ≤ 60 ∧ (flt (cs ++ [x])).length ≤ i1 ∧ f6_readText_B24 bytes (nn n) code sumEnd testEnd size (nn m) (nn u) kind sign 0 (nn s) (nn e) (nn m) = f6_readText_J127 bytes (nn n) code1 sumEnd1 testEnd size1 (nn m) (nn u1) k1 g1 0 (nn s1) (nn e1) (nn m) ∧ f12_clauseHere tape (nn n) sgn len clause clauses rd (nn i) 0 num (nn k) (nn u) de (nn m) opn od = some (1, sgn1, len1, clause1, clauses1, rd, nn i1, 0, num1, nn u1, de1, nn (m + 1), opn1, od1) ∧ Rn isSp b n i1 s1 ∧ Tk b n s1 k1 g1 e1 ∧ RTc (cs ++ [x]) code1 sumEnd1 (upd testEnd m size1) size1 ∧ RTm (cs ++ [x]) k sg0 cl0 cls0 sgn1 len1 clause1 clauses1 ∧ RTo (cs ++ [x]) u1) ∨
    (∃ (w : Nat) (code1 sumEnd1 : Nat → Int32) (size1 u1 k1 g1 st1 sp1 : Int32) (sgn1 len1 clause1 clauses1 opn1 : Nat → Int32) (nx1 num1 ma1 de1 li1 od1 : Int32), 0 < w ∧ w < 5000 ∧ FR k sg0 sgn1 ∧ FRc k cl0 cls0 clause1 clauses1 ∧ f6_readText_B24 bytes (nn n) code sumEnd testEnd size (nn m) (nn u) kind sign 0 (nn s) (nn e) (nn m) = some (.inr (.inl (0, code1, sumEnd1, testEnd, size1, nn m, u1, k1, g1, nn w, st1, sp1))) ∧ f12_clauseHere tape (nn n) sgn len clause clauses rd (nn i) 0 num (nn k) (nn u) de (nn m) opn od = some (0, sgn1, len1, clause1, clauses1, rd, nx1, nn w, num1, ma1, de1, li1, opn1, od1)) := by
  have hn := hx.1
  have his := h.1
  have hse := ht.se
  have bad : ∀ q, q < 5 → 0 < 1 + 8 * s + q ∧ 1 + 8 * s + q < 5000 := fun q hq => by omega
  unfold f6_readText_B24 f12_clauseHere
  rw [if_neg (show ¬ (12 : Int32) < nn m from nlt (a := 12) (by decide) (by omega) (by omega)), m_see hx h, bnd2_s, if_neg (show ¬ nn k = 6 from nne (b := 6) (by omega) (by decide) (by omega))]
  unfold f12_clauseHere_J24
  rw [if_pos rfl, cw1_0]
  rcases r_at (i := 1) (by decide) rfl hx ht with ⟨rfl, w1, w2, w3, w4⟩ | ⟨w1, w2⟩
  · rw [w3, bnd1_s, if_neg (show ¬ (1 : Int32) = 0 by decide), w4 s h.mid, bnd2_s, if_neg (show ¬ (1 : Int32) = 0 by decide)]
    unfold f12_clauseHere_J56
    rw [if_pos rfl]
    unfold f12_clauseHere_J71
    by_cases c12 : m = 12
    · right
      subst c12
      rw [if_neg (show ¬ nn 12 < 12 by decide), show f9_refuse 0 (nn s) 4 = _ from c_refuse 0 s 4, bnd2_s, if_pos (Or.inl rfl), if_pos (show nn 12 = 12 from rfl), show f12_fails 0 4 (nn s) = _ from m_fails s 4, bnd2_s, if_pos (Or.inl rfl)]
      exact ⟨_, _, _, _, _, _, _, _, _, _, _, _, _, _, _, _, _, _, _, _, (bad 4 (by decide)).1, (bad 4 (by decide)).2, hM.1.2.2, hM.2.2.2, rfl, rfl⟩
    · have hen := w2.2.1
      obtain ⟨s2, k2, g2, e2, t1, t2, t3⟩ := next_tk (kind := 1) (sign := sign) (i := e) (nn s) hx hen
      have e48 : (48 : Int32) * nn k + 4 * nn m = nn (48 * k + 4 * m) := by rw [show (48 : Int32) * nn k = nn (48 * k) from nn_mul 48 k, show (4 : Int32) * nn m = nn (4 * m) from nn_mul 4 m, nn_add]
      have hcm : clauses k = nn m := by rw [hM.2.1, hm]
      rw [if_pos (show nn m < 12 from nltT (b := 12) (by omega) (by decide) (by omega)), t2, bnd4_s, if_neg (show ¬ nn m = 12 from nne (b := 12) (by omega) (by decide) c12), nn_succ, lt_df, if_pos rfl]
      unfold f12_isClimbHere
      rw [m_passWord hx w2, bnd1_s, nn_nat (show k < 2147483648 by omega), if_neg (ng (a := k) (n := 6) (by omega) (by omega)), hcm, e48, lt_df, if_neg (ng (a := k) (n := 7) (by omega) (by omega)), hM.1.1, lt_df, nn_nat (show 48 * k + 4 * m < 2147483648 by omega), if_neg (ng (by omega) (by omega)), lt_df]
      rcases r_sum (num := num) (p := 0) hk hx t1 t3 hC.1 hM.1 hu (by omega) with ⟨s3, e3, u3, k3, g3, num3, size3, code3, sgn3, len3, A, x1, x2, x3, x4, x5, x6, x7, x8, x9, x10, x11⟩ | ⟨w, code3, size3, u3, k3, g3, st3, sp3, sgn3, len3, nx3, num3, ma3, x1, ⟨x2a, x2b, x2c⟩, x3, x4⟩
      · have hs3n := x8.se
        have hlA : (flt cs ++ A).length = (flt cs).length + A.length := List.length_append
        have n49 : (nn (48 * k + 4 * m + 1)).toNatClampNeg = 48 * k + 4 * m + 1 := nn_nat (by omega)
        have n50 : (nn (48 * k + 4 * m + 2)).toNatClampNeg = 48 * k + 4 * m + 2 := nn_nat (by omega)
        have n51 : (nn (48 * k + 4 * m + 3)).toNatClampNeg = 48 * k + 4 * m + 3 := nn_nat (by omega)
        have e50 : nn (48 * k + 4 * m) + 2 = nn (48 * k + 4 * m + 2) := nn_add _ 2
        have e51 : nn (48 * k + 4 * m) + 3 = nn (48 * k + 4 * m + 3) := nn_add _ 3
        have e49 : nn (48 * k + 4 * m) + 1 = nn (48 * k + 4 * m + 1) := nn_succ _
        rw [x5, bnd9_s, if_neg (show ¬ (1 : Int32) = 0 by decide), nn_nat (show m < 2147483648 by omega), if_neg (ng (a := m) (n := 12) (by omega) (by omega)), lt_df]
        rw [x6, bnd7_s, if_neg (show ¬ (1 : Int32) = 0 by decide), if_neg (ng (a := k) (n := 7) (by omega) (by omega)), x10.1, lt_df, e49, n49, if_neg (ng (by omega) (by omega)), lt_df, e50, n50, if_neg (ng (by omega) (by omega)), lt_df]
        unfold f12_takesWord
        rcases r_at (i := 2) (by decide) rfl hx x8 with ⟨rfl, v1, v2, v3, v4⟩ | ⟨v1, v2⟩
        · -- if
          have he3n := v2.2.1
          obtain ⟨s4, k4, g4, e4, y1, y2, y3⟩ := next_tk (kind := 1) (sign := g3) (i := e3) (nn s3) hx he3n
          rw [v3, bnd1_s, if_neg (show ¬ (1 : Int32) = 0 by decide), y2, bnd4_s, cw2_0, v4 s3 x7, bnd2_s, if_neg (show ¬ (1 : Int32) = 0 by decide), m_passWord hx v2, bnd1_s, bnd2_s, if_neg (show ¬ (1 : Int32) = 0 by decide), if_neg (ng (a := k) (n := 7) (by omega) (by omega)), lt_df, if_neg (ng (by omega) (by omega)), lt_df]
          rcases r_test (dp := 0) (st := []) (num := num3) (op := opn) hk hx (r_fact hk hx 12) (by omega) (by omega) (Or.inl rfl) (fun v hv => absurd hv List.not_mem_nil) rfl (show (flt cs ++ A).length + 0 ≤ e3 by omega) x2 y1 y3 x9 x10 trivial with ⟨s5, e5, i5, u5, k5, g5, num5, size5, code5, sgn5, len5, op5, T, itr, ops, z1, z2, z3, z4, z5, z6, z7, z8, z9, z10, z11, z12, z13, z14, z15, z16⟩ | ⟨w, code5, size5, u5, k5, g5, st5, sp5, z1, z2, z3, out, z4, z5⟩
          · left
            have hi5n : i5 ≤ n := by have := z6.1; have := z7.1; omega
            have hitl : itr.length + ops.length = (flt cs ++ A).length + T.length := by
              have : (itr ++ itm ops).length = itr.length + ops.length := by rw [List.length_append]; unfold itm; rw [List.length_map]
              rw [← this, z9, List.length_append]
            rw [List.append_nil] at z12 z16
            obtain ⟨sgn6, len6, od6, de6, c1, c2⟩ := C_end (u := u5) (num := num5) hk hx z6 z14 z15 z10 z11 z12 (by have : ([] : List Nat).length = 0 := rfl; omega)
            have hRF := z16 _ c2
            have hF9 : 402 < FUEL := by decide
            have hte : f12_tested tape (nn n) sgn3 len3 (nn e3) 0 num3 (nn k) (nn u3) de opn od = some (1, sgn6, len6, nn s5, 0, num5, nn u5, de6, op5, od6) := by
              rw [m_tested]
              exact hRF FUEL 999999 (by omega) (by omega)
            have happ : flt cs ++ A ++ T = flt cs ++ (A ++ T) := List.append_assoc _ _ _
            rw [z9, happ] at c1
            rw [happ] at z8
            rw [show f6_readTest (f6_readFact 12) code3 size3 (nn u3) bytes (nn n) k4 g4 0 (nn s4) (nn e4) 0 = _ from z5, bnd9_s, if_neg (show ¬ (1 : Int32) = 0 by decide), hte, bnd10_s, if_neg (show ¬ (1 : Int32) = 0 by decide)]
            unfold f12_isClimbHere_J110
            rw [nn_nat (show k < 2147483648 by omega), if_neg (ng (a := k) (n := 7) (by omega) (by omega)), c1.1, lt_df, e51, n51, if_neg (ng (by omega) (by omega)), lt_df, if_neg (ng (a := k) (n := 6) (by omega) (by omega)), hcm, nn_succ, lt_df, if_neg (ng (a := k) (n := 6) (by omega) (by omega)), lt_df, bnd12_s, if_pos (Or.inr rfl)]
            have hcl2 : upd (upd (upd (upd (upd clause (48 * k + 4 * m) (nn (flt cs).length)) (48 * k + 4 * m + 1) (nn (flt cs ++ A).length)) (48 * k + 4 * m + 2) (-1)) (48 * k + 4 * m + 2) (nn (flt cs ++ A).length)) (48 * k + 4 * m + 3) (nn (flt cs ++ (A ++ T)).length) = upd (upd (upd (upd clause (48 * k + 4 * cs.length) (nn (flt cs).length)) (48 * k + 4 * cs.length + 1) (nn ((flt cs).length + A.length))) (48 * k + 4 * cs.length + 2) (nn ((flt cs).length + A.length))) (48 * k + 4 * cs.length + 3) (nn (flt cs ++ (A ++ T)).length) := by
              rw [hm, hlA]
              congr 1
              funext q
              by_cases c : q = 48 * k + 4 * m + 2
              · rw [c, upd_at, upd_at]
              · rw [upd_ne c, upd_ne c, upd_ne c]
            rw [hcl2]
            have hRTm := hM.snoc (A := A) (T := T) (t := nn ((flt cs).length + A.length)) (by omega) c1 (by rw [if_neg (SgT_ne z13)])
            have hRTc := hC.snoc z8
            rw [hm] at hRTc
            rw [hm] at hRTm ⊢
            rw [← hlA, ← x9.1] at hRTc
            refine ⟨s5, e5, s5, u5, k5, g5, num5, de6, od6, size5, code5, _, sgn6, len6, _, _, op5, (A, T), by omega, by have := z6.1; omega, z2, ?_, rfl, rfl, z6.mid, z7, hRTc, hRTm, hO.snoc x11 (Or.inr z13) (by omega)⟩
            rw [flt_snoc, List.length_append, List.length_append]
            have := z6.1
            omega
          · right
            have hF9 : 402 < FUEL := by decide
            obtain ⟨r6, sgn6, len6, nx6, wr6, num6, ma6, de6, op6, od6⟩ := out
            obtain ⟨o1, o2, o3⟩ := z4
            dsimp only at o1 o2 o3
            subst o1 o2
            have hte : f12_tested tape (nn n) sgn3 len3 (nn e3) 0 num3 (nn k) (nn u3) de opn od = some (0, sgn6, len6, nx6, nn w, num6, ma6, de6, op6, od6) := by
              rw [m_tested]
              exact z5 FUEL 999999 (by omega) (by omega)
            rw [show f6_readTest (f6_readFact 12) code3 size3 (nn u3) bytes (nn n) k4 g4 0 (nn s4) (nn e4) 0 = _ from z3, bnd9_s, if_pos rfl, hte, bnd10_s, if_pos rfl, bnd12_s, if_pos (Or.inl rfl)]
            refine ⟨w, _, _, _, _, _, _, _, _, _, _, _, _, _, _, _, _, _, _, _, z1, z2.1, o3, ⟨fun q hq => ?_, hM.2.2.2.2⟩, rfl, rfl⟩
            rw [upd_ne (by omega), upd_ne (by omega), upd_ne (by omega), upd_ne (by omega)]
            exact hM.2.2.2.1 q hq
        · left
          rw [v1, bnd1_s, if_pos rfl, cw2_0, v2 s3 x7, bnd2_s, if_pos rfl, bnd2_s, if_pos rfl]
          unfold f12_isClimbHere_J110
          have happ : flt cs ++ (A ++ []) = flt cs ++ A := by rw [List.append_nil]
          rw [nn_nat (show k < 2147483648 by omega), if_neg (ng (a := k) (n := 7) (by omega) (by omega)), x10.1, lt_df, e51, n51, if_neg (ng (by omega) (by omega)), lt_df, if_neg (ng (a := k) (n := 6) (by omega) (by omega)), hcm, nn_succ, lt_df, if_neg (ng (a := k) (n := 6) (by omega) (by omega)), lt_df, bnd12_s, if_pos (Or.inr rfl)]
          have hRTm := hM.snoc (A := A) (T := []) (t := -1) (by omega) (by rw [happ]; exact x10) (by rw [if_pos rfl])
          have hRTc := hC.snoc (A := A) (T := []) (by rw [happ]; exact x9)
          rw [hm] at hRTc hRTm
          rw [happ, ← hlA] at hRTm
          rw [← hlA, ← x9.1] at hRTc
          refine ⟨s3, e3, s3, u3, k3, g3, num3, de, od, size3, code3, _, sgn3, len3, _, _, opn, (A, []), by omega, by omega, x2, ?_, rfl, rfl, x7, x8, hRTc, hRTm, hO.snoc x11 (Or.inl rfl) (by show u + cntP A + 0 ≤ u3; omega)⟩
          rw [flt_snoc, happ]
          omega
      · right
        rw [x3, bnd9_s, if_pos rfl]
        rw [x4, bnd7_s, if_pos rfl, bnd12_s, if_pos (Or.inl rfl)]
        refine ⟨w, _, _, _, _, _, _, _, _, _, _, _, _, _, _, _, _, _, _, _, x1, x2a, x2c, ⟨fun q hq => ?_, hM.2.2.2.2⟩, rfl, rfl⟩
        rw [upd_ne (by omega)]
        exact hM.2.2.2.1 q hq
  · right
    rw [w1, bnd1_s, if_pos rfl, w2 s h.mid, bnd2_s, if_pos rfl]
    unfold f12_clauseHere_J49
    rw [show f9_refuse 0 (nn s) 0 = _ from c_refuse 0 s 0, bnd2_s, if_pos (Or.inl rfl), show f12_fails 0 0 (nn s) = _ from m_fails s 0, bnd2_s, if_pos (Or.inl rfl)]
    exact ⟨_, _, _, _, _, _, _, _, _, _, _, _, _, _, _, _, _, _, _, _, (bad 0 (by decide)).1, (bad 0 (by decide)).2, hM.1.2.2, hM.2.2.2, rfl, rfl⟩
end
