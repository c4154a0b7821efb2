/-! a rule's text: tests and facts -/
section
variable {b : Nat → Nat} {bytes tape : Nat → Int32} {n k : Nat} {sg0 : Nat → Int32} {g : Nat}
theorem r_test (hk : k < 6) (hx : TX b bytes tape n) (hF : FactP b bytes tape n k sg0 g) {dp : Nat} (hg : 11 ≤ g + dp) (hdp : dp ≤ 10) {st : List Nat} (hst : HD st) (hv9 : ∀ v, v ∈ st → v < 1000) (hdc : dcnt st = dp) {i s e u : Nat} {kind sign num : Int32} {code sgn len op : Nat → Int32} {size : Int32} {its : List (Nat × Nat)} (hl : its.length + st.length ≤ i) (hu : u ≤ 60) (h : Rn isSp b n i s) (ht : Tk b n s kind sign e) (hC : CC code size its) (hM : CM k sg0 sgn len its) (hS : SKr op st) :
    (∃ (s1 e1 i1 u1 : Nat) (k1 g1 num1 size1 : Int32) (code1 sgn1 len1 op1 : Nat → Int32) (A itr : List (Nat × Nat)) (ops : List Nat), i < i1 ∧ u1 ≤ 60 ∧ u + cntP A ≤ u1 ∧ its.length + A.length + st.length ≤ i1 ∧ f6_readTest (f6_readFact g) code size (nn u) bytes (nn n) kind sign 0 (nn s) (nn e) (nn dp) = some (1, code1, size1, nn u1, k1, g1, 0, nn s1, nn e1) ∧ Rn isSp b n i1 s1 ∧ Tk b n s1 k1 g1 e1 ∧ CC code1 size1 (its ++ A) ∧ itr ++ itm ops = its ++ A ∧ (∀ o, o ∈ ops → o = 12 ∨ o = 13) ∧ CM k sg0 sgn1 len1 itr ∧ SKr op1 (ops ++ st) ∧ SgT A ∧ (∀ j, Rn isSp b n j s1 → f12_isWord tape (nn n) (nn j) (lN (pkW ((rowW 3).getD 0 []))) = some (0, nn s1)) ∧ (∀ j, Rn isSp b n j s1 → f12_isWord tape (nn n) (nn j) (lN (pkW ((rowW 4).getD 0 []))) = some (0, nn s1)) ∧ ∀ out, RC tape n k i1 (ops ++ st) u1 sgn1 len1 op1 num1 out → RF tape n k i st u sgn len op num out) ∨
    (∃ (w : Nat) (code1 : Nat → Int32) (size1 u1 k1 g1 st' sp : Int32), 0 < w ∧ (w < 5000 ∧ 0 ≤ size1) ∧ f6_readTest (f6_readFact g) code size (nn u) bytes (nn n) kind sign 0 (nn s) (nn e) (nn dp) = some (0, code1, size1, u1, k1, g1, nn w, st', sp) ∧ ∃ out, Fl k sg0 w out ∧ RF tape n k i st u sgn len op num out) := by
  have hn := hx.1
  have hs11 : st = [] ∨ ∃ v r, st = v :: r ∧ v ≠ 11 ∧ v < 1000 := by
    rcases hst with h | ⟨r, h⟩
    · exact Or.inl h
    · exact Or.inr ⟨91, r, h, by decide, by decide⟩
  unfold f6_readTest
  rcases hF i s e u dp kind sign num code sgn len op size its [] st hg hdp hdc (fun o ho => absurd ho List.not_mem_nil) hs11 hv9 hl hu h ht hC hM hS with ⟨s3, e3, i3, u3, k3, g3, num3, size3, code3, sgn3, len3, op3, A, x1, x2, x3, x4, x5, x6, x7, x8, x9, x10, x11, x12⟩ | ⟨w, code3, size3, u3, k3, g3, st3, sp3, x1, x2, x3, out, x4, x5⟩
  · have hx9 : CM k sg0 sgn3 len3 (its ++ A) := by
      have : its ++ A ++ itm [] = its ++ A := List.append_nil _
      rw [← this]; exact x9
    have hi3n : i3 ≤ n := by have := x6.1; have := x7.1; omega
    have hx4 : its.length + A.length + st.length ≤ i3 := x4
    rw [x5, bnd9_s, if_neg (show ¬ (1 : Int32) = 0 by decide)]
    have hF2 : ∀ c, c ≤ 900 → ∃ f, FUEL = f + c := fun c hc => ⟨FUEL - c, by have : 1000 ≤ FUEL := (by decide); omega⟩
    rcases r_testL hk hx hF hg hdp hst hv9 hdc 400 i3 s3 e3 u3 0 k3 g3 num3 0 code3 sgn3 len3 op3 size3 its (its ++ A) (its ++ A) [] (by omega) (by rw [List.nil_append, List.length_append]; omega) (by omega) x2 x6 x7 x8 hx9 x10 (Or.inl ⟨rfl, ⟨A, rfl, x11⟩, Or.inl ⟨rfl, rfl⟩⟩) with ⟨c, q1, u1, s1, e1, i1, k1, g1, num1, size1, orW1, code1, sgn4, len4, op1, ic1, itr1, ops1, z1, z2, z3, z4, z5, ⟨z6a, z6b, z6c, z6d⟩, z7, z8, z9, z10, z11, z12, z13⟩ | ⟨c, w, code1, size1, u1, k1, g1, st1, sp1, z1, z2, z3, z4, out, z5, z6⟩
    · left
      have hi1n : i1 ≤ n := by have := z7.1; have := z8.1; omega
      obtain ⟨f, hf⟩ := hF2 (1 + c) (by omega)
      have hcl : iter (TCl bytes n (f6_readFact g) (nn dp)) FUEL (code3, size3, nn u3, k3, g3, (0 : Int32), nn s3, nn e3, (0 : Int32), (0 : Int32)) = some (.inr (code1, size1, nn u1, k1, g1, 0, nn s1, nn e1, orW1)) := by
        rw [hf, show f + (1 + c) = f + 1 + c by omega]
        rw [show iter (TCl bytes n (f6_readFact g) (nn dp)) (f + 1 + c) (code3, size3, nn u3, k3, g3, (0 : Int32), nn s3, nn e3, (0 : Int32), (0 : Int32)) = _ from z5 (f + 1)]
        exact iter_r (c_testEnd z6a z6b) f
      unfold TCl at hcl
      have hTl := z12.len
      rw [List.length_append] at z4
      rw [cntP_app] at z3
      rcases (show orW1 = 0 ∨ orW1 = 1 by rcases z12 with ⟨h, -⟩ | ⟨h, -⟩ <;> simp [h]) with rfl | rfl
      · obtain ⟨q1', X, q2, q3⟩ := z12.end0
        rw [if_pos rfl] at hTl
        rw [q2] at z9 q1' hTl
        rw [q2, cntP_app] at z3
        rw [List.length_append] at hTl
        refine ⟨s1, e1, i1, u1, k1, g1, num1, size1, code1, sgn4, len4, op1, X, itr1, ops1, by omega, z2, by omega, by omega, ?_, z7, z8, z9, q1', z12.ops, z10, z11, q3, z6c, z6d, fun out hr => x12 out (z13 out hr)⟩
        rw [hcl, bndS9_r, if_pos rfl]
      · obtain ⟨q1', X, q2, q3⟩ := z12.end1
        rw [if_neg (show ¬ (1 : Int32) = 0 by decide)] at hTl
        obtain ⟨code2, size2, y1, y2⟩ := c_op (o := 13) z9 (by omega)
        have hXl : its.length + X.length = ic1.length + 1 := by rw [← List.length_append, ← q2, List.length_append]; rfl
        have hXc : cntP its + cntP X = cntP ic1 := by rw [← cntP_app, ← q2, cntP_app]; rfl
        rw [q2] at y2 q1'
        refine ⟨s1, e1, i1, u1, k1, g1, num1, size2, code2, sgn4, len4, op1, X, itr1, ops1, by omega, z2, by omega, by omega, ?_, z7, z8, y2, q1', z12.ops, z10, z11, q3, z6c, z6d, fun out hr => x12 out (z13 out hr)⟩
        rw [hcl, bndS9_r, if_neg (show ¬ (1 : Int32) = 0 by decide), show f6_emit code1 size1 2 124 = _ from y1, bnd2_s]
    · right
      obtain ⟨f, hf⟩ := hF2 (c + 1) (by omega)
      have hcl : iter (TCl bytes n (f6_readFact g) (nn dp)) FUEL (code3, size3, nn u3, k3, g3, (0 : Int32), nn s3, nn e3, (0 : Int32), (0 : Int32)) = some (.inl (0, code1, size1, u1, k1, g1, nn w, st1, sp1)) := by
        rw [hf]
        exact z4 f
      unfold TCl at hcl
      rw [hcl, bndS9_l]
      exact ⟨w, _, _, _, _, _, _, _, z1, z2, rfl, out, z5, x12 out z6⟩
  · right
    rw [x3, bnd9_s, if_pos rfl]
    exact ⟨w, _, _, _, _, _, _, _, x1, x2, rfl, out, x4, x5⟩
theorem r_fact (hk : k < 6) (hx : TX b bytes tape n) : ∀ g, FactP b bytes tape n k sg0 g := by
  intro g
  induction g with
  | zero =>
    intro i s e u dp kind sign num code sgn len op size its nots st1 hg hdp
    omega
  | succ g ih =>
    intro i s e u dp kind sign num code sgn len op size its nots st1 hg hdp hdc hno hst hv9 hl hu h ht hC hM hS
    have hn := hx.1
    have his := h.1
    have hse := ht.se
    have hv9a : ∀ v, v ∈ nots ++ st1 → v < 1000 := fun v hv => by
      rcases List.mem_append.mp hv with h | h
      · rw [hno v h]; decide
      · exact hv9 v h
    have bad : ∀ q, q < 5 → 0 < 1 + 8 * s + q ∧ (1 + 8 * s + q < 5000 ∧ 0 ≤ size) := fun q hq => ⟨by omega, by omega, by rw [hC.1]; exact n0le (by omega)⟩
    have e0 : f6_readFact (g + 1) = f6_readFact_body (f6_readFact g) := rfl
    rw [e0]
    unfold f6_readFact_body
    rcases r_at (i := 5) (by decide) rfl hx ht with ⟨rfl, w1, w2, w3, w4⟩ | ⟨w1, w2⟩
    · rw [w3, bnd1_s, if_neg (show ¬ (1 : Int32) = 0 by decide)]
      unfold f6_readFact_J31
      by_cases cd : dp = 10
      · right
        rw [if_neg (show ¬ nn dp < 10 from nlt (b := 10) (by omega) (by decide) (by omega)), show f9_refuse 0 (nn s) 2 = _ from c_refuse 0 s 2, bnd2_s, if_pos (Or.inl rfl)]
        obtain ⟨out, f1, f2⟩ := F_notD (k := k) (u := u) (sgn := sgn) (len := len) (op := op) (num := num) hx h w4 (show dcnt (nots ++ st1) = 10 by omega) hM.2.2
        exact ⟨_, _, _, _, _, _, _, _, (bad 2 (by decide)).1, (bad 2 (by decide)).2, rfl, out, f1, f2⟩
      · have hen := w2.2.1
        obtain ⟨s2, k2, g2, e2, t1, t2, t3⟩ := next_tk (kind := 1) (sign := sign) (i := e) (nn s) hx hen
        have hd2 : dcnt ((11 :: nots) ++ st1) = dp + 1 := by
          show (if (11 : Nat) = 11 ∨ (11 : Nat) = 91 then 1 else 0) + dcnt (nots ++ st1) = _
          rw [if_pos (Or.inl rfl)]; omega
        have hll : ((11 :: nots) ++ st1).length = (nots ++ st1).length + 1 := rfl
        rw [if_pos (show nn dp < 10 from nltT (b := 10) (by omega) (by decide) (by omega)), t2, bnd4_s, if_neg (show ¬ (1 : Int32) = 0 by decide), nn_succ]
        unfold f6_readNegated
        rcases ih e s2 e2 u (dp + 1) k2 g2 num code sgn len (upd op (nots ++ st1).length (nn 11)) size its (11 :: nots) st1 (by omega) (by omega) hd2 (fun o ho => by rcases List.mem_cons.mp ho with h | h; exact h; exact hno o h) hst hv9 (by rw [hll]; omega) hu t1 t3 hC hM (SKr_push hS) with ⟨s3, e3, i3, u3, k3, g3, num3, size3, code3, sgn3, len3, op3, A, x1, x2, x3, x4, x5, x6, x7, x8, x9, x10, x11, x12⟩ | ⟨w, code3, size3, u3, k3, g3, st3, sp3, x1, x2, x3, out, x4, x5⟩
        · left
          rw [hll] at x4
          have hi3n : i3 ≤ n := by have := x6.1; have := x7.1; omega
          obtain ⟨code4, size4, y1, y2⟩ := c_op (o := 11) x8 (by rw [List.length_append]; omega)
          have happ : its ++ A ++ [(2, 11)] = its ++ (A ++ [(2, 11)]) := List.append_assoc _ _ _
          have happ2 : its ++ A ++ itm (11 :: nots) = its ++ (A ++ [(2, 11)]) ++ itm nots := by
            show its ++ A ++ ((2, 11) :: itm nots) = _
            simp only [List.append_assoc, List.cons_append, List.nil_append]
          rw [happ] at y2
          rw [happ2] at x9
          refine ⟨s3, e3, i3, u3, k3, g3, num3, size4, code4, sgn3, len3, op3, A ++ [(2, 11)], by omega, x2, ?_, ?_, ?_, x6, x7, y2, x9, x10, SgT.not x11, fun out hr => F_not hx h w2 w1 w4 (show dcnt (nots ++ st1) < 10 by omega) (by omega) (x12 out hr)⟩
          · rw [cntP_app]
            show u + (cntP A + 0) ≤ u3
            omega
          · rw [List.length_append (as := A)]
            show its.length + (A.length + 1) + (nots ++ st1).length ≤ i3
            omega
          · rw [x5, bnd9_s, show f6_emit code3 size3 2 33 = _ from y1, bnd2_s, if_pos (Or.inr rfl), bnd9_s, if_pos (Or.inr rfl)]
        · right
          have hemit : ∃ c4 z4, f6_emit code3 size3 2 33 = some (c4, z4) ∧ 0 ≤ z4 := by
            unfold f6_emit
            by_cases c4 : (400 : Int32) ≤ size3
            · rw [if_pos c4]; exact ⟨_, _, rfl, x2.2⟩
            · have c5 : ¬ size3 < 0 := Int32.not_lt.mpr x2.2
              obtain ⟨y, hy, e5⟩ := nn_of_lt c5 (show 400 < 2147483648 by decide) (Int32.not_le.mp c4)
              rw [if_neg c4, lt_df, e5, nn_nat (by omega), if_neg (ng (by omega) (by omega)), lt_df, nn_succ, lt_df]
              exact ⟨_, _, rfl, n0le (by omega)⟩
          obtain ⟨c4, z4, h4, h5⟩ := hemit
          rw [x3, bnd9_s, h4, bnd2_s, if_pos (Or.inl rfl), bnd9_s, if_pos (Or.inl rfl)]
          exact ⟨w, _, _, _, _, _, _, _, x1, ⟨x2.1, h5⟩, rfl, out, x4, F_not hx h w2 w1 w4 (show dcnt (nots ++ st1) < 10 by omega) (by omega) x5⟩
    · rw [w1, bnd1_s, if_pos rfl]
      rcases ht.isAt (c := 91) hx (by decide) (by decide) (by decide) (by decide) (by decide) with ⟨q1, q2, q3, q4⟩ | ⟨q1, q2⟩
      · rw [show f9_isAt kind sign 91 = _ from q4, bnd1_s, if_neg (show ¬ (1 : Int32) = 0 by decide)]
        unfold f6_readFact_J31
        by_cases cd : dp = 10
        · right
          rw [if_neg (show ¬ nn dp < 10 from nlt (b := 10) (by omega) (by decide) (by omega)), show f9_refuse 0 (nn s) 2 = _ from c_refuse 0 s 2, bnd2_s, if_pos (Or.inl rfl)]
          obtain ⟨out, f1, f2⟩ := F_openD (k := k) (u := u) (sgn := sgn) (len := len) (op := op) (num := num) hx h q1 q2 w2 (show dcnt (nots ++ st1) = 10 by omega) hM.2.2
          exact ⟨_, _, _, _, _, _, _, _, (bad 2 (by decide)).1, (bad 2 (by decide)).2, rfl, out, f1, f2⟩
        · obtain ⟨s2, k2, g2, e2, t1, t2, t3⟩ := next_tk (kind := kind) (sign := sign) (i := e) (nn s) hx hse.2.1
          rw [if_pos (show nn dp < 10 from nltT (b := 10) (by omega) (by decide) (by omega)), t2, bnd4_s, if_pos rfl, nn_succ]
          unfold f6_readBracketed
          rw [q3] at t1
          have hd2 : dcnt (91 :: (nots ++ st1)) = dp + 1 := by
            show (if (91 : Nat) = 11 ∨ (91 : Nat) = 91 then 1 else 0) + dcnt (nots ++ st1) = _
            rw [if_pos (Or.inr rfl)]; omega
          have hll : (91 :: (nots ++ st1)).length = (nots ++ st1).length + 1 := rfl
          have hv91 : ∀ v, v ∈ 91 :: (nots ++ st1) → v < 1000 := fun v hv => by
            rcases List.mem_cons.mp hv with h | h
            · rw [h]; decide
            · exact hv9a v h
          rcases r_test (dp := dp + 1) (num := num) (sgn := sgn) (len := len) (op := upd op (nots ++ st1).length (nn 91)) hk hx ih (by omega) (by omega) (Or.inr ⟨nots ++ st1, rfl⟩) hv91 hd2 (by rw [hll]; omega) hu t1 t3 hC hM (SKr_push hS) with ⟨s3, e3, i3, u3, k3, g3, num3, size3, code3, sgn3, len3, op3, A, itr, ops, x1, x2, x3, x4, x5, x6, x7, x8, x9, x10, x11, x12, x13, x14, x15, x16⟩ | ⟨w, code3, size3, u3, k3, g3, st3, sp3, x1, x2, x3, out, x4, x5⟩
          · rw [hll] at x4
            have hi3 := x6.1
            have hs3n := x7.se
            have hfo : ∀ out, RF tape n k (s + 1) (91 :: (nots ++ st1)) u sgn len (upd op (nots ++ st1).length (nn 91)) num out → RF tape n k i (nots ++ st1) u sgn len op num out := fun out hr => F_open hx h q1 q2 w2 (show dcnt (nots ++ st1) < 10 by omega) (by omega) hr
            have hil : (itr ++ itm ops).length = itr.length + ops.length := by rw [List.length_append]; unfold itm; rw [List.length_map]
            have hil2 : itr.length + ops.length = its.length + A.length := by rw [← hil, x9, List.length_append]
            rw [x5, bnd9_s, if_neg (show ¬ (1 : Int32) = 0 by decide)]
            rcases x7.isAt (c := 93) hx (by decide) (by decide) (by decide) (by decide) (by decide) with ⟨y1, y2, y3, y4⟩ | ⟨y1, y2⟩
            · left
              obtain ⟨s4, k4, g4, e4, v1, v2, v3⟩ := next_tk (kind := k3) (sign := g3) (i := e3) (nn s3) hx hs3n.2.1
              rw [y3] at v1
              obtain ⟨sgn4, len4, m1, m2, m3⟩ := C_close (u := u3) (num := num3) hk hx x6 y1 y2 x10 hno hst hv9 x11 x12 (by rw [List.length_append, hll]; omega)
              rw [x9] at m1
              refine ⟨s4, e4, s3 + 1, u3, k4, g4, num3, size3, code3, sgn4, len4, op3, A, by omega, x2, x3, by omega, ?_, v1, v3, x8, m1, m2, x13, fun out hr => hfo out (x16 out (m3 out hr))⟩
              rw [show f9_isAt k3 g3 93 = _ from y4, bnd1_s, if_neg (show ¬ (1 : Int32) = 0 by decide), v2, bnd4_s, bnd9_s, if_pos (Or.inr rfl)]
            · right
              have hin := m_inside x12 (by rw [List.length_append, hll]; omega) (fun v hv => by
                rcases List.mem_append.mp hv with h | h
                · rcases x10 v h with h | h <;> rw [h] <;> decide
                · exact hv91 v h)
              rw [if_pos (List.mem_append_right _ List.mem_cons_self)] at hin
              obtain ⟨out, f1, f2⟩ := C_bad (k := k) (u := u3) (sgn := sgn3) (len := len3) (num := num3) hx x6 y1 x14 x15 hin x11.2.2
              rw [show f9_isAt k3 g3 93 = _ from y2, bnd1_s, if_pos rfl, show f9_refuse 0 (nn s3) 0 = _ from c_refuse 0 s3 0, bnd2_s, if_pos (Or.inl rfl), bnd9_s, if_pos (Or.inl rfl)]
              exact ⟨_, _, _, _, _, _, _, _, by omega, ⟨by omega, by rw [x8.1]; exact n0le (by rw [List.length_append]; omega)⟩, rfl, out, f1, hfo out (x16 out f2)⟩
          · right
            rw [x3, bnd9_s, if_pos rfl, bnd9_s, if_pos (Or.inl rfl)]
            exact ⟨w, _, _, _, _, _, _, _, x1, x2, rfl, out, x4, F_open hx h q1 q2 w2 (show dcnt (nots ++ st1) < 10 by omega) (by omega) x5⟩
      · rw [show f9_isAt kind sign 91 = _ from q2, bnd1_s, if_pos rfl]
        rcases r_compare (num := num) (p := (nots ++ st1).length) hk hx h.mid ht hC hM hu (by omega) with ⟨s3, e3, u3, k3, g3, num3, size3, code3, sgn3, len3, A, x1, x2, x3, x4, x5, x6, x7, x8, x9, x10, x11⟩ | ⟨w, code3, size3, u3, k3, g3, st3, sp3, sgn3, len3, nx3, num3, ma3, x1, x2, x3, x4⟩
        · left
          have hs3n := x8.se
          obtain ⟨sgn4, len4, m1, m2, m3⟩ := F_cmp hk hx h q1 w2 x6 hno hst x10 hS (by rw [List.length_append]; omega) (by omega) hs3n.2.2
          rw [x5, bnd9_s, if_pos (Or.inr rfl)]
          exact ⟨s3, e3, s3, u3, k3, g3, num3, size3, code3, sgn4, len4, op, A, by omega, x2, x3, x4, rfl, x7, x8, x9, m1, m2, x11, m3⟩
        · right
          obtain ⟨out, f1, f2⟩ := F_cmpD (k := k) (st := nots ++ st1) (op := op) hx h q1 w2 x4 x2.2.2
          rw [x3, bnd9_s, if_pos (Or.inl rfl)]
          exact ⟨w, _, _, _, _, _, _, _, x1, ⟨x2.1, x2.2.1⟩, rfl, out, f1, f2⟩
end
