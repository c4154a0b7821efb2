/-! a ladder's text: broken rungs, people -/
section
variable {b : Nat → Nat} {bytes tape : Nat → Int32} {n i j s e R P bb : Nat} {rd : Nat → Int32} {rungs people sbr : Int32} {room strength weight told srg swt : Nat → Int32}
theorem crF_0 {g : Nat → Int32} {x : Int32} : ∀ {k : Nat}, crF g x k = 0 → ∀ p, p < k → g p ≠ x
  | 0, _, p, hp => absurd hp (Nat.not_lt_zero _)
  | k + 1, h, p, hp => by
    have h' : crF g x k + (if g k = x then 1 else 0) = 0 := h
    by_cases e : p = k
    · subst e
      intro h2
      rw [if_pos h2] at h'
      omega
    · have h3 : crF g x k = 0 := by omega
      exact crF_0 h3 p (by omega)
theorem r_brokenL {kind sign fault num : Int32} {s0 e0 : Nat} (hR : 0 < R) (hx : TX b bytes tape n) (hw : Rn isLe b n s0 e0) (h : Rn isSp b n e0 s) (ht : Tk b n s kind sign e) (hL : LdR R P bb rd rungs people sbr room strength weight told srg swt) :
    (∃ s1 k1 g1 e1 i1 num1 rd1 bb1, f2_readBroken bytes (nn n) kind sign fault (nn s) (nn e) rungs people sbr srg = some (1, k1, g1, fault, nn s1, nn e1, nn bb1) ∧ f12_isBrokenHere tape (nn n) rd (nn s0) 0 num = some (1, rd1, nn i1, 0, num1) ∧ Rn isSp b n i1 s1 ∧ Tk b n s1 k1 g1 e1 ∧ LdR R P bb1 rd1 rungs people (nn bb1) room strength weight told srg swt) ∨
    (∃ (w : Nat) (k1 g1 st1 sp1 sb1 : Int32) (rd1 : Nat → Int32) (nx1 num1 : Int32), 0 < w ∧ w < 5000 ∧ f2_readBroken bytes (nn n) kind sign fault (nn s) (nn e) rungs people sbr srg = some (0, k1, g1, nn w, st1, sp1, sb1) ∧ f12_isBrokenHere tape (nn n) rd (nn s0) 0 num = some (0, rd1, nx1, nn w, num1)) := by
  have hcr := hL.crowd
  obtain ⟨h1, h2, h3, h4, h5, h6, h7, h8, h9, h10, h11, h12, h13, h14, h15, h16, h17⟩ := hL
  have hR1 : nn R - 1 = nn (R - 1) := nn_sub (b := 1) (by omega)
  have hs := ht.se
  have hn := hx.1
  unfold f2_readBroken f12_isBrokenHere
  rw [m_passWord hx hw, bnd1_s, m_see hx h, bnd2_s, h5, h8, hR1]
  rcases r_number (fault := fault) (num := num) (lo := 0) (hi := R - 1) (by decide) (by omega) hx ht h.mid with ⟨v, v1, v2, v3, -, v4, v5⟩ | ⟨w, nx, nu, w1, w2, w3, w4⟩
  · have hcl := crF_le srg (nn v) P
    have e13 : ((10 : Int32) + 4 * nn v) + 3 = nn (13 + 4 * v) := by
      rw [show (4 : Int32) * nn v = nn (4 * v) from nn_mul 4 v, show (10 : Int32) + nn (4 * v) = nn (10 + 4 * v) from nn_add 10 _, show nn (10 + 4 * v) + 3 = nn (10 + 4 * v + 3) from nn_add _ 3]
      congr 1
      omega
    rw [show f2_number bytes kind fault (nn s) (nn e) 0 (nn (R - 1)) = _ from v4, bnd2_s, if_neg (nn_ne_m1 (by omega)), (hcr _).2, bnd1_s]
    rw [show f12_numberHere tape (nn n) (nn s) 0 num 0 (nn (R - 1)) = _ from v5, bnd4_s, if_neg (show ¬ (1 : Int32) = 0 by decide), (hcr _).1, bnd1_s]
    by_cases c : crF srg (nn v) P = 0
    · obtain ⟨s1, k1, g1, e1, t1, t2, t3⟩ := next_tk (kind := kind) (sign := sign) (nn s) hx ht.se.2.1
      obtain ⟨b1, b2, b3⟩ := bt_or bb h3 v (by omega)
      left
      have c0 : nn (crF srg (nn v) P) ≤ 0 := by rw [c]; exact Int32.le_refl _
      rw [if_pos c0, if_pos c0, t2, bnd4_s, h7, b1, lt_df, e13, nn_nat (show 13 + 4 * v < 2147483648 by omega), if_neg (ng (by omega) (by omega)), lt_df]
      refine ⟨s1, k1, g1, e1, e, _, _, bb ||| 2 ^ v, rfl, rfl, t1, t3, h1, h2, b2, h4, rfl, h6, rfl, by rw [upd_ne (by omega)]; exact h8, by rw [upd_ne (by omega)]; exact h9, by rw [upd_ne (by omega)]; exact h10, by rw [upd_ne (by omega)]; exact h11, fun r hr => ?_, fun r hr hr9 => ?_, fun p hp => ?_, h15, fun i hi hi2 => by rw [upd_ne (by omega)]; exact h16 i hi hi2, fun r hr => by rw [upd_ne (by omega)]; exact h17 r hr⟩
      · rw [upd_ne (i := 13 + 4 * v) (j := 10 + 4 * r) (by omega), upd_ne (i := 13 + 4 * v) (j := 11 + 4 * r) (by omega), upd_ne (i := 13 + 4 * v) (j := 12 + 4 * r) (by omega), b3 r hr]
        obtain ⟨q1, q2, q3, q4⟩ := h12 r hr
        refine ⟨q1, q2, q3, ?_⟩
        by_cases c2 : r = v
        · subst c2; rw [upd_at, if_pos rfl]
        · rw [upd_ne (by omega), if_neg c2]; exact q4
      · rw [b3 r hr9, if_neg (by omega)]; exact h13 r hr hr9
      · obtain ⟨q1, q2, q3, q4, q5, q6, q7, q8, ⟨r, q9, q10, q11⟩, q12⟩ := h14 p hp
        rw [upd_ne (by omega), upd_ne (by omega), upd_ne (by omega), upd_ne (by omega), upd_ne (by omega), upd_ne (by omega), upd_ne (by omega), upd_ne (by omega)]
        refine ⟨q1, q2, q3, q4, q5, q6, q7, q8, ⟨r, q9, q10, ?_⟩, q12⟩
        rw [b3 r (by omega), if_neg]
        · exact q11
        · intro h2
          have := crF_0 c p hp
          rw [q10, h2] at this
          exact this rfl
    · right
      have c0 : ¬ nn (crF srg (nn v) P) ≤ 0 := nle (b := 0) (by omega) (by decide) (by omega)
      rw [if_neg c0, if_neg c0, show f9_refuse fault (nn s) 1 = _ from c_refuse fault s 1, bnd2_s, if_pos (Or.inl rfl)]
      rw [show f12_fails 0 1 (nn s) = _ from m_fails s 1, bnd2_s, if_pos (Or.inl rfl)]
      exact ⟨1 + 8 * s + 1, _, _, _, _, _, _, _, _, by omega, by omega, rfl, rfl⟩
  · right
    rw [show f2_number bytes kind fault (nn s) (nn e) 0 (nn (R - 1)) = _ from w3, bnd2_s, if_pos rfl]
    rw [show f12_numberHere tape (nn n) (nn s) 0 num 0 (nn (R - 1)) = _ from w4, bnd4_s, if_pos rfl]
    exact ⟨w, _, _, _, _, _, _, _, _, w1, w2, rfl, rfl⟩
theorem r_personL {kind sign fault num a1 : Int32} {s0 e0 : Nat} (hR : 0 < R) (hP : P < 4) (hx : TX b bytes tape n) (hw : Rn isLe b n s0 e0) (h : Rn isSp b n e0 s) (ht : Tk b n s kind sign e) (hL : LdR R P bb rd rungs people sbr room strength weight told srg swt) :
    (∃ s1 k1 g1 e1 i1 num1 rd1 w1 t1 sr1 sw1, f2_readPerson bytes (nn n) kind sign fault (nn s) (nn e) rungs people sbr room weight told srg swt = some (1, k1, g1, fault, nn s1, nn e1, nn (P + 1), w1, t1, sr1, sw1) ∧ f12_isPersonHere tape (nn n) rd (nn s0) 0 num a1 = some (1, rd1, nn i1, 0, num1) ∧ Rn isSp b n i1 s1 ∧ Tk b n s1 k1 g1 e1 ∧ LdR R (P + 1) bb rd1 rungs (nn (P + 1)) sbr room strength w1 t1 sr1 sw1) ∨
    (∃ (w : Nat) (k1 g1 st1 sp1 pp1 : Int32) (w1 t1 sr1 sw1 rd1 : Nat → Int32) (nx1 num1 : Int32), 0 < w ∧ w < 5000 ∧ f2_readPerson bytes (nn n) kind sign fault (nn s) (nn e) rungs people sbr room weight told srg swt = some (0, k1, g1, nn w, st1, sp1, pp1, w1, t1, sr1, sw1) ∧ f12_isPersonHere tape (nn n) rd (nn s0) 0 num a1 = some (0, rd1, nx1, nn w, num1)) := by
  have hcr := hL.crowd
  obtain ⟨h1, h2, h3, h4, h5, h6, h7, h8, h9, h10, h11, h12, h13, h14, h15, h16, h17⟩ := hL
  have hR1 : nn R - 1 = nn (R - 1) := nn_sub (b := 1) (by omega)
  have hs := ht.se
  have hn := hx.1
  unfold f2_readPerson f12_isPersonHere
  rw [h9, if_neg (show ¬ nn P = 4 from nne (b := 4) (by omega) (by decide) (by omega)), m_passWord hx hw, bnd1_s, m_see hx h, bnd2_s, lt_df, h5, h8, hR1]
  rcases r_number (fault := fault) (num := num) (lo := 0) (hi := R - 1) (by decide) (by omega) hx ht h.mid with ⟨v, v1, v2, v3, -, v4, v5⟩ | ⟨w, nx, nu, w1, w2, w3, w4⟩
  · have hcl := crF_le srg (nn v) P
    obtain ⟨m, hm5, hm⟩ := h17 v (by omega)
    obtain ⟨q12a, q12b, q12c, q12d⟩ := h12 v (by omega)
    have e10 : (10 : Int32) + 4 * nn v = nn (10 + 4 * v) := by rw [show (4 : Int32) * nn v = nn (4 * v) from nn_mul 4 v]; exact nn_add 10 _
    have e13 : nn (10 + 4 * v) + 3 = nn (13 + 4 * v) := by
      rw [show nn (10 + 4 * v) + 3 = nn (10 + 4 * v + 3) from nn_add _ 3]
      congr 1
      omega
    have htk : f1_takesPerson people sbr room srg (nn v) = some (if bt bb v = 0 then (if m ≤ crF srg (nn v) P then 0 else 1) else 0) := by
      unfold f1_takesPerson
      rw [h7]
      by_cases c : bt bb v = 0
      · rw [if_pos (show ((nn bb >>> (nn v &&& 31)) &&& 1) = 0 from c), if_pos c, (hcr _).2, bnd1_s, nn_nat (show v < 2147483648 by omega), if_neg (ng (by omega) (by omega)), q12a, hm]
        by_cases c2 : m ≤ crF srg (nn v) P
        · rw [if_pos (nleT (by omega) (by omega) c2), if_pos c2]
        · rw [if_neg (nle (by omega) (by omega) c2), if_neg c2]
      · rw [if_neg (show ¬ ((nn bb >>> (nn v &&& 31)) &&& 1) = 0 from c), if_neg c]
    rw [show f2_number bytes kind fault (nn s) (nn e) 0 (nn (R - 1)) = _ from v4, bnd2_s, if_neg (nn_ne_m1 (by omega)), htk, bnd1_s]
    rw [show f12_numberHere tape (nn n) (nn s) 0 num 0 (nn (R - 1)) = _ from v5, bnd4_s, if_neg (show ¬ (1 : Int32) = 0 by decide), e10, lt_df, e13, nn_nat (show 13 + 4 * v < 2147483648 by omega), if_neg (ng (by omega) (by omega)), q12d]
    have badJ : f12_isPersonHere_J98 rd (nn e) 0 (nn v) (nn s) = some (0, rd, nn e, nn (1 + 8 * s + 1), nn v) := by
      unfold f12_isPersonHere_J98
      rw [show f12_fails 0 1 (nn s) = _ from m_fails s 1, bnd2_s, if_pos (Or.inl rfl)]
    by_cases c : bt bb v = 0
    · rw [if_pos c, if_neg (show ¬ bt bb v = 1 by rw [c]; decide), (hcr _).1, bnd1_s, nn_nat (show 10 + 4 * v < 2147483648 by omega), if_neg (ng (by omega) (by omega)), hm]
      by_cases c2 : m ≤ crF srg (nn v) P
      · right
        rw [if_pos c2, if_pos rfl, show f9_refuse fault (nn s) 1 = _ from c_refuse fault s 1, bnd2_s, if_pos (Or.inl rfl)]
        rw [if_neg (nlt (by omega) (by omega) (by omega)), badJ]
        exact ⟨1 + 8 * s + 1, _, _, _, _, _, _, _, _, _, _, _, _, by omega, by omega, rfl, rfl⟩
      · obtain ⟨s1, k1, g1, e1, t1, t2, t3⟩ := next_tk (kind := kind) (sign := sign) (nn s) hx ht.se.2.1
        have e46 : (46 : Int32) + 4 * nn P = nn (46 + 4 * P) := by rw [show (4 : Int32) * nn P = nn (4 * P) from nn_mul 4 P]; exact nn_add 46 _
        have e70 : (70 : Int32) + nn P = nn (70 + P) := nn_add 70 _
        have e74 : (74 : Int32) + nn P = nn (74 + P) := nn_add 74 _
        have e62 : (62 : Int32) + 2 * nn P = nn (62 + 2 * P) := by rw [show (2 : Int32) * nn P = nn (2 * P) from nn_mul 2 P]; exact nn_add 62 _
        have e48 : nn (46 + 4 * P) + 2 = nn (46 + 4 * P + 2) := nn_add _ 2
        have e49 : nn (46 + 4 * P) + 3 = nn (46 + 4 * P + 3) := nn_add _ 3
        rw [if_neg c2, if_neg (show ¬ (1 : Int32) = 0 by decide), t2, bnd4_s]
        rw [if_pos (nltT (by omega) (by omega) (by omega)), e46, nn_nat (show 46 + 4 * P < 2147483648 by omega), if_neg (ng (by omega) (by omega)), lt_df, e70, nn_nat (show 70 + P < 2147483648 by omega), if_neg (ng (by omega) (by omega)), lt_df, e62, nn_succ]
        rcases r_cell (rd := upd (upd rd (46 + 4 * P) (nn v)) (70 + P) (nn v)) (fault := fault) (num := nn v) (lo := 1) (hi := 20) (c := 62 + 2 * P) (by decide) (by decide) (by omega) hx t3 t1 with ⟨u, u1, u2, u3, u4, u5⟩ | ⟨w, nx, nu, w1, w2, w3, w4⟩
        · obtain ⟨s2, k2, g2, e2, y1, y2, y3⟩ := next_tk (kind := k1) (sign := g1) (nn s1) hx t3.se.2.1
          rw [show f2_number bytes k1 fault (nn s1) (nn e1) 1 20 = _ from u4, bnd2_s, if_neg (nn_ne_m1 (by omega)), y2, bnd4_s]
          rw [show f12_cellHere tape (nn n) (upd (upd rd (46 + 4 * P) (nn v)) (70 + P) (nn v)) (nn e) 0 (nn v) (nn (62 + 2 * P)) 1 20 = _ from u5, bnd5_s, if_neg (show ¬ (1 : Int32) = 0 by decide)]
          rcases r_cell (rd := upd (upd (upd rd (46 + 4 * P) (nn v)) (70 + P) (nn v)) (62 + 2 * P) (nn u)) (fault := fault) (num := nn u) (lo := 1) (hi := 30) (c := 62 + 2 * P + 1) (by decide) (by decide) (by omega) hx y3 y1 with ⟨x, x1, x2, x3, x4, x5⟩ | ⟨w, nx, nu, w1, w2, w3, w4⟩
          · obtain ⟨s3, k3, g3, e3, z1, z2, z3⟩ := next_tk (kind := k2) (sign := g2) (nn s2) hx y3.se.2.1
            rw [show f2_number bytes k2 fault (nn s2) (nn e2) 1 30 = _ from x4, bnd2_s, if_neg (nn_ne_m1 (by omega)), z2, bnd4_s]
            rw [show f12_cellHere tape (nn n) (upd (upd (upd rd (46 + 4 * P) (nn v)) (70 + P) (nn v)) (62 + 2 * P) (nn u)) (nn e1) 0 (nn u) (nn (62 + 2 * P + 1)) 1 30 = _ from x5, bnd5_s, if_neg (show ¬ (1 : Int32) = 0 by decide), e48]
            have hr0 : (upd (upd (upd (upd rd (46 + 4 * P) (nn v)) (70 + P) (nn v)) (62 + 2 * P) (nn u)) (62 + 2 * P + 1) (nn x)) 0 = nn R := by
              rw [upd_ne (by omega), upd_ne (by omega), upd_ne (by omega), upd_ne (by omega)]; exact h8
            rw [hr0, hR1]
            rcases r_cell (rd := upd (upd (upd (upd rd (46 + 4 * P) (nn v)) (70 + P) (nn v)) (62 + 2 * P) (nn u)) (62 + 2 * P + 1) (nn x)) (fault := fault) (num := nn x) (lo := 0) (hi := R - 1) (c := 46 + 4 * P + 2) (by decide) (by omega) (by omega) hx z3 z1 with ⟨y, a1', a2, a3, a4, a5⟩ | ⟨w, nx, nu, w1, w2, w3, w4⟩
            · obtain ⟨s4, k4, g4, e4, f1, f2, f3⟩ := next_tk (kind := k3) (sign := g3) (nn s3) hx z3.se.2.1
              left
              rw [show f2_number bytes k3 fault (nn s3) (nn e3) 0 (nn (R - 1)) = _ from a4, bnd2_s, if_neg (nn_ne_m1 (by omega)), h6, if_pos (show nn P < 4 from nltT (b := 4) (by omega) (by decide) hP), f2, bnd4_s, nn_nat (show P < 2147483648 by omega), if_neg (ng (by omega) (by omega)), lt_df, if_neg (ng (by omega) (by omega)), lt_df, if_neg (ng (by omega) (by omega)), lt_df, if_neg (ng (by omega) (by omega)), lt_df, lt_df, nn_succ]
              rw [show f12_cellHere tape (nn n) (upd (upd (upd (upd rd (46 + 4 * P) (nn v)) (70 + P) (nn v)) (62 + 2 * P) (nn u)) (62 + 2 * P + 1) (nn x)) (nn e2) 0 (nn x) (nn (46 + 4 * P + 2)) 0 (nn (R - 1)) = _ from a5, bnd5_s, if_neg (show ¬ (1 : Int32) = 0 by decide)]
              have n1 : (nn (62 + 2 * P + 1)).toNatClampNeg = 62 + 2 * P + 1 := nn_nat (by omega)
              have n2 : (nn (46 + 4 * P + 1)).toNatClampNeg = 46 + 4 * P + 1 := nn_nat (by omega)
              have n3 : (nn (46 + 4 * P + 3)).toNatClampNeg = 46 + 4 * P + 3 := nn_nat (by omega)
              have n4 : (nn (46 + 4 * P + 2)).toNatClampNeg = 46 + 4 * P + 2 := nn_nat (by omega)
              have n5 : (nn (74 + P)).toNatClampNeg = 74 + P := nn_nat (by omega)
              rw [n1, if_neg (ng (by omega) (by omega)), lt_df, show nn (46 + 4 * P) + 1 = nn (46 + 4 * P + 1) from nn_succ _, n2, if_neg (ng (by omega) (by omega)), lt_df, e49, n3, if_neg (ng (by omega) (by omega)), lt_df, n4, if_neg (ng (by omega) (by omega)), lt_df, e74, n5, if_neg (ng (by omega) (by omega)), lt_df, lt_df]
              refine ⟨s4, k4, g4, e4, e3, _, _, _, _, _, _, rfl, rfl, f1, f3, ?_⟩
              generalize hF : upd (upd (upd (upd (upd (upd (upd (upd rd (46 + 4 * P) (nn v)) (70 + P) (nn v)) (62 + 2 * P) (nn u)) (62 + 2 * P + 1) (nn x)) (46 + 4 * P + 2) (nn y)) (46 + 4 * P + 1) ((upd (upd (upd (upd (upd rd (46 + 4 * P) (nn v)) (70 + P) (nn v)) (62 + 2 * P) (nn u)) (62 + 2 * P + 1) (nn x)) (46 + 4 * P + 2) (nn y)) (62 + 2 * P + 1))) (46 + 4 * P + 3) 0) (74 + P) ((upd (upd (upd (upd (upd (upd (upd rd (46 + 4 * P) (nn v)) (70 + P) (nn v)) (62 + 2 * P) (nn u)) (62 + 2 * P + 1) (nn x)) (46 + 4 * P + 2) (nn y)) (46 + 4 * P + 1) ((upd (upd (upd (upd (upd rd (46 + 4 * P) (nn v)) (70 + P) (nn v)) (62 + 2 * P) (nn u)) (62 + 2 * P + 1) (nn x)) (46 + 4 * P + 2) (nn y)) (62 + 2 * P + 1))) (46 + 4 * P + 3) 0) (46 + 4 * P + 2)) = F
              have o : ∀ q, q ≠ 46 + 4 * P → q ≠ 46 + 4 * P + 1 → q ≠ 46 + 4 * P + 2 → q ≠ 46 + 4 * P + 3 → q ≠ 62 + 2 * P → q ≠ 62 + 2 * P + 1 → q ≠ 70 + P → q ≠ 74 + P → F q = rd q := by
                intro q q1 q2 q3 q4 q5 q6 q7 q8
                rw [← hF, upd_ne q8, upd_ne q4, upd_ne q2, upd_ne q3, upd_ne q6, upd_ne q5, upd_ne q7, upd_ne q1]
              have F46 : F (46 + 4 * P) = nn v := by rw [← hF, upd_ne (by omega), upd_ne (by omega), upd_ne (by omega), upd_ne (by omega), upd_ne (by omega), upd_ne (by omega), upd_ne (by omega), upd_at]
              have F47 : F (46 + 4 * P + 1) = nn x := by rw [← hF, upd_ne (by omega), upd_ne (by omega), upd_at, upd_ne (by omega), upd_at]
              have F48 : F (46 + 4 * P + 2) = nn y := by rw [← hF, upd_ne (by omega), upd_ne (by omega), upd_ne (by omega), upd_at]
              have F49 : F (46 + 4 * P + 3) = 0 := by rw [← hF, upd_ne (by omega), upd_at]
              have F62 : F (62 + 2 * P) = nn u := by rw [← hF, upd_ne (by omega), upd_ne (by omega), upd_ne (by omega), upd_ne (by omega), upd_ne (by omega), upd_at]
              have F63 : F (62 + 2 * P + 1) = nn x := by rw [← hF, upd_ne (by omega), upd_ne (by omega), upd_ne (by omega), upd_ne (by omega), upd_at]
              have F70 : F (70 + P) = nn v := by rw [← hF, upd_ne (by omega), upd_ne (by omega), upd_ne (by omega), upd_ne (by omega), upd_ne (by omega), upd_ne (by omega), upd_at]
              have F74 : F (74 + P) = nn y := by rw [← hF, upd_at, upd_ne (by omega), upd_ne (by omega), upd_at]
              have F1 : F 1 + 1 = nn (P + 1) := by rw [o 1 (by omega) (by omega) (by omega) (by omega) (by omega) (by omega) (by omega) (by omega), h9, nn_succ]
              rw [F1]
              have o2 : ∀ q, q ≠ 1 → q ≠ 46 + 4 * P → q ≠ 46 + 4 * P + 1 → q ≠ 46 + 4 * P + 2 → q ≠ 46 + 4 * P + 3 → q ≠ 62 + 2 * P → q ≠ 62 + 2 * P + 1 → q ≠ 70 + P → q ≠ 74 + P → upd F 1 (nn (P + 1)) q = rd q := by
                intro q q0 q1 q2 q3 q4 q5 q6 q7 q8
                rw [upd_ne q0]; exact o q q1 q2 q3 q4 q5 q6 q7 q8
              have o1 : ∀ q, q ≠ 1 → upd F 1 (nn (P + 1)) q = F q := fun q hq => upd_ne hq
              refine ⟨h1, by omega, h3, fun h => by omega, rfl, rfl, h7, by rw [o2 0 (by omega) (by omega) (by omega) (by omega) (by omega) (by omega) (by omega) (by omega) (by omega)]; exact h8, upd_at, by rw [o2 2 (by omega) (by omega) (by omega) (by omega) (by omega) (by omega) (by omega) (by omega) (by omega)]; exact h10, by rw [o2 78 (by omega) (by omega) (by omega) (by omega) (by omega) (by omega) (by omega) (by omega) (by omega)]; exact h11, fun r hr => ?_, h13, fun p hp => ?_, fun p hp hp4 => ?_, fun i hi hi2 => ?_, fun r hr => ?_⟩
              · rw [o2 (10 + 4 * r) (by omega) (by omega) (by omega) (by omega) (by omega) (by omega) (by omega) (by omega) (by omega), o2 (11 + 4 * r) (by omega) (by omega) (by omega) (by omega) (by omega) (by omega) (by omega) (by omega) (by omega), o2 (12 + 4 * r) (by omega) (by omega) (by omega) (by omega) (by omega) (by omega) (by omega) (by omega) (by omega), o2 (13 + 4 * r) (by omega) (by omega) (by omega) (by omega) (by omega) (by omega) (by omega) (by omega) (by omega)]
                exact h12 r hr
              · by_cases e5 : p = P
                · subst e5
                  rw [o1 (46 + 4 * p) (by omega), o1 (47 + 4 * p) (by omega), o1 (48 + 4 * p) (by omega), o1 (49 + 4 * p) (by omega), o1 (62 + 2 * p) (by omega), o1 (63 + 2 * p) (by omega), o1 (70 + p) (by omega), o1 (74 + p) (by omega)]
                  rw [show 47 + 4 * p = 46 + 4 * p + 1 by omega, show 48 + 4 * p = 46 + 4 * p + 2 by omega, show 49 + 4 * p = 46 + 4 * p + 3 by omega, show 63 + 2 * p = 62 + 2 * p + 1 by omega, F46, F47, F48, F49, F62, F63, F70, F74, upd_at, upd_at, upd_at, upd_at]
                  exact ⟨rfl, rfl, rfl, rfl, rfl, rfl, rfl, rfl, ⟨v, by omega, rfl, c⟩, ⟨y, by omega, rfl⟩, ⟨u, u2, by omega, rfl⟩, ⟨x, x2, by omega, rfl⟩⟩
                · rw [o2 (46 + 4 * p) (by omega) (by omega) (by omega) (by omega) (by omega) (by omega) (by omega) (by omega) (by omega), o2 (47 + 4 * p) (by omega) (by omega) (by omega) (by omega) (by omega) (by omega) (by omega) (by omega) (by omega), o2 (48 + 4 * p) (by omega) (by omega) (by omega) (by omega) (by omega) (by omega) (by omega) (by omega) (by omega), o2 (49 + 4 * p) (by omega) (by omega) (by omega) (by omega) (by omega) (by omega) (by omega) (by omega) (by omega), o2 (62 + 2 * p) (by omega) (by omega) (by omega) (by omega) (by omega) (by omega) (by omega) (by omega) (by omega), o2 (63 + 2 * p) (by omega) (by omega) (by omega) (by omega) (by omega) (by omega) (by omega) (by omega) (by omega), o2 (70 + p) (by omega) (by omega) (by omega) (by omega) (by omega) (by omega) (by omega) (by omega) (by omega), o2 (74 + p) (by omega) (by omega) (by omega) (by omega) (by omega) (by omega) (by omega) (by omega) (by omega), upd_ne e5, upd_ne e5, upd_ne e5, upd_ne e5]
                  exact h14 p (by omega)
              · rw [upd_ne (by omega), upd_ne (by omega), upd_ne (by omega)]
                exact h15 p (by omega) hp4
              · rw [o2 i (by omega) (by omega) (by omega) (by omega) (by omega) (by omega) (by omega) (by omega) (by omega)]
                exact h16 i (by omega) hi2
              · rw [o2 (10 + 4 * r) (by omega) (by omega) (by omega) (by omega) (by omega) (by omega) (by omega) (by omega) (by omega)]
                exact h17 r hr
            · right
              rw [show f2_number bytes k3 fault (nn s3) (nn e3) 0 (nn (R - 1)) = _ from w3, bnd2_s, if_pos rfl]
              rw [show f12_cellHere tape (nn n) (upd (upd (upd (upd rd (46 + 4 * P) (nn v)) (70 + P) (nn v)) (62 + 2 * P) (nn u)) (62 + 2 * P + 1) (nn x)) (nn e2) 0 (nn x) (nn (46 + 4 * P + 2)) 0 (nn (R - 1)) = _ from w4, bnd5_s, if_pos rfl]
              exact ⟨w, _, _, _, _, _, _, _, _, _, _, _, _, w1, w2, rfl, rfl⟩
          · right
            rw [show f2_number bytes k2 fault (nn s2) (nn e2) 1 30 = _ from w3, bnd2_s, if_pos rfl]
            rw [show f12_cellHere tape (nn n) (upd (upd (upd rd (46 + 4 * P) (nn v)) (70 + P) (nn v)) (62 + 2 * P) (nn u)) (nn e1) 0 (nn u) (nn (62 + 2 * P + 1)) 1 30 = _ from w4, bnd5_s, if_pos rfl]
            exact ⟨w, _, _, _, _, _, _, _, _, _, _, _, _, w1, w2, rfl, rfl⟩
        · right
          rw [show f2_number bytes k1 fault (nn s1) (nn e1) 1 20 = _ from w3, bnd2_s, if_pos rfl]
          rw [show f12_cellHere tape (nn n) (upd (upd rd (46 + 4 * P) (nn v)) (70 + P) (nn v)) (nn e) 0 (nn v) (nn (62 + 2 * P)) 1 20 = _ from w4, bnd5_s, if_pos rfl]
          exact ⟨w, _, _, _, _, _, _, _, _, _, _, _, _, w1, w2, rfl, rfl⟩
    · right
      have c1 : bt bb v = 1 := (bt01 bb h3 v (by omega)).resolve_left c
      rw [if_neg c, if_pos rfl, show f9_refuse fault (nn s) 1 = _ from c_refuse fault s 1, bnd2_s, if_pos (Or.inl rfl), if_pos c1, badJ]
      exact ⟨1 + 8 * s + 1, _, _, _, _, _, _, _, _, _, _, _, _, by omega, by omega, rfl, rfl⟩
  · right
    rw [show f2_number bytes kind fault (nn s) (nn e) 0 (nn (R - 1)) = _ from w3, bnd2_s, if_pos rfl]
    rw [show f12_numberHere tape (nn n) (nn s) 0 num 0 (nn (R - 1)) = _ from w4, bnd4_s, if_pos rfl]
    exact ⟨w, _, _, _, _, _, _, _, _, _, _, _, _, w1, w2, rfl, rfl⟩
end
