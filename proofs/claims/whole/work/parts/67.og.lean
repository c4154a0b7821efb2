/-! move: the answers -/
section
variable {S : Nat → Int32} {R P : Nat}
theorem r_move {n : Nat} {pset people rungs hour broken goal rowl t0 fu mp mk : Int32} {wrung grip want slips worn room strength weight told f0 q0 rung crowd digit above below far fq ow : Nat → Int32} (hI : IV R P S) (hW : RWd S hour broken wrung grip want slips worn) (hL : RLd R P S rungs people room strength weight told) (a1 a2 a3 : Int32) (hn : n = 6561 ∨ ¬ PW R P S a1) :
    ∃ v ps f1 q1 t1 go1 rl1 dg1 rg1 cr1 ab1 bl1 far1 fq1 fu1 ow1 mp1 mk1, f11_move rungs people pset n f0 n q0 t0 goal rowl digit rung crowd above below broken wrung want rungs people room a1 a2 a3 = some (v, ps, f1, q1, t1, go1, rl1, dg1, rg1, cr1, ab1, bl1) ∧ f12_move S far fq fu ow mp mk a1 a2 a3 = some (v, S, far1, fq1, fu1, ow1, mp1, mk1) := by
  have hP4 := hI.1.2.1
  have hno : ∃ v ps f1 q1 t1 go1 rl1 dg1 rg1 cr1 ab1 bl1 far1 fq1 fu1 ow1 mp1 mk1, some ((-3 : Int32), pset, f0, q0, t0, goal, rowl, digit, rung, crowd, above, below) = some (v, ps, f1, q1, t1, go1, rl1, dg1, rg1, cr1, ab1, bl1) ∧ some ((-3 : Int32), S, far, fq, fu, ow, mp, mk) = some (v, S, far1, fq1, fu1, ow1, mp1, mk1) := ⟨_, _, _, _, _, _, _, _, _, _, _, _, _, _, _, _, _, _, rfl, rfl⟩
  have hp := hL.2.1
  subst hp
  have hr := hL.1
  subst hr
  have i2 : f12_in (Int32.toInt64 a3) (0 : Int64) (2 : Int64) = _ := m_in (a := a3) (lo := 0) (hi := 2) (by decide) (by decide)
  unfold f11_move f12_move
  rcases p_has hI with ⟨z0, e1, e2⟩ | ⟨hR0, e1, e2⟩
  · have e3 : f12_isSet S a1 = some 0 := by unfold f12_isSet; rw [e2, bnd1_s, if_pos rfl]
    rw [e1, bnd1_s, if_pos rfl, e3, bnd1_s, if_pos rfl]; exact hno
  · rw [e1, bnd1_s, if_neg (show ¬ (1 : Int32) = 0 by decide)]
    rcases p_isSet hI hR0 a1 with ⟨g1, g2⟩ | ⟨a, ha, rfl, g1, g2⟩
    · rw [g1, bnd1_s, if_pos rfl, g2, bnd1_s, if_pos rfl]; exact hno
    · rw [g1, bnd1_s, if_neg (show ¬ (1 : Int32) = 0 by decide), g2, bnd1_s, if_neg (show ¬ (1 : Int32) = 0 by decide)]
      by_cases c2 : a2 < 0
      · rw [if_pos c2, if_pos c2]; exact hno
      · rw [if_neg c2, if_neg c2, i2, bnd1_s]
        by_cases c3 : a3 < 0
        · rw [if_pos c3, if_pos (show a3 < nn 0 from c3), if_pos rfl]; exact hno
        · rw [if_neg c3, if_neg (show ¬ a3 < nn 0 from c3)]
          by_cases c4 : a3 ≤ 2
          · rw [if_pos c4, if_neg (show ¬ nn 2 < a3 from Int32.not_lt.mpr c4), if_neg (show ¬ (1 : Int32) = 0 by decide)]
            obtain ⟨v, ps, f1, q1, t1, go1, rl1, dg1, rg1, cr1, ab1, bl1, k1, k2⟩ := c_fewest (n := n) (pset := pset) (t0 := t0) (goal := goal) (rowl := rowl) (f0 := f0) (q0 := q0) (rung := rung) (crowd := crowd) (digit := digit) (above := above) (below := below) hI hR0 hW hL ha (by
              rcases hn with h | h
              · exact Or.inl h
              · exact Or.inr (fun h2 => h ⟨hR0, a, ha, rfl, h2⟩))
            obtain ⟨N, far1, fq1, fu1, m1, mA, m3, m4⟩ := m_search (set := nn a) (far := far) (fq := fq) (fu := fu) hI hR0
            rw [k1, bnd12_s, m1, bnd4_s]
            have hlen := (bf_GL hI hR0 N).len hI.1.1 hI.1.2.1
            rcases k2 with ⟨rfl, k2⟩ | ⟨g, x, hn6, k2, kA, rfl, rfl, rfl⟩
            · rw [if_neg (show ¬ a2 < -2 from fun h => c2 (Int32.lt_trans h (by decide)))]
              rcases m4 with ⟨g, x, j1, j2, -, -⟩ | ⟨-, j4⟩
              · have := k2 N x m3 (List.mem_of_getElem? j1)
                rw [j2] at this; cases this
              · rw [j4, bnd2_s, if_pos (show (-1 : Int32) < 0 by decide)]
                exact ⟨_, _, _, _, _, _, _, _, _, _, _, _, _, _, _, _, _, _, rfl, rfl⟩
            · subst hn6
              rcases m4 with ⟨g', x', j1, j2, j3, j4⟩ | ⟨j1, -⟩
              · obtain ⟨rfl, rfl⟩ := k2.one m3 j1 j2 j3
                have hd := bf_dep N x' (List.mem_of_getElem? j1)
                rw [j4, bnd2_s, if_neg (nlt0 (by omega))]
                by_cases c5 : a2 < nn x'.2.2.2
                · obtain ⟨k, hk, rfl⟩ := nn_of_lt c2 (show x'.2.2.2 < 2147483648 by omega) c5
                  have hN6 : N ≤ 6561 := by omega
                  have hDD : ∀ y, y ∈ bf S P N → y.2.2.2 < 2147483647 := fun y hy => by have := bf_dep N y hy; omega
                  have hG := bf_GL hI hR0 N
                  have hS := bf_SO' m3 (Nat.le_refl N)
                  obtain ⟨ow1, mp1, mk1, w1, w2⟩ := m_fillsWay (set := nn a) (mp := mp) (mk := mk) (ow := ow) (D := x'.2.2.2) hI hR0 hG mA hS hDD m3 (by omega)
                  obtain ⟨s9, y, z, e, u1, rfl, u3, u4, u5, u6⟩ := m_walk (set := nn a) (mp := mp1) (mk := mk1) (k := k) hI hR0 hG mA hS hDD m3 j1 j2 j3 w2 hk (by omega)
                  have hq0 : fq1 0 = nn (hc 9 (d0F S) 0 P) := (mA.2.1 0 (e0 S) hS.1).1
                  have hst := m_standsAs hI (d0_VD hI hR0) u3
                  rw [SD_d0 hI] at hst
                  have hgN : g' ≤ N := by have := (List.getElem?_eq_some_iff.mp j1).1; omega
                  have hSg := bf_SO' m3 hgN
                  obtain ⟨z', v1, v2⟩ := c_told (w := a3) (k := k) kA (bf_GL hI hR0 g') hSg hI.1.1 hI.1.2.1 k2.2.1 hk (by omega)
                  have hzz : z' = z := by
                    obtain ⟨T, hT⟩ := bf_pre (S := S) (P := P) hgN
                    have h1 := pI_ext (T := T) hSg k2.2.1 (x'.2.2.2 - k - 1) (by omega)
                    rw [← hT] at h1
                    rw [h1] at u4
                    have h2 := bf_at hgN v1
                    rw [u4] at h2
                    exact (Option.some.inj h2).symm
                  subst hzz
                  obtain ⟨s1, s2, s3, s4⟩ := suc_some hI.1.2.1 u5
                  rw [if_pos c5, if_pos c5, v2, bnd1_s, lt_df, w1, bnd4_s, u1, bnd3_s, hq0, hst, bnd1_s]
                  unfold tV
                  have t3 : a3 = 0 ∨ a3 = 1 ∨ a3 = 2 := by
                    obtain ⟨w, hw, rfl⟩ := nn_of_lt c3 (show 3 < 2147483648 by decide) (show a3 < nn 3 from by
                      have h2 : a3.toInt ≤ 2 := by have := Int32.le_iff_toInt_le.mp c4; exact this
                      rw [Int32.lt_iff_toInt_lt]
                      have h3 : (nn 3).toInt = 3 := by decide
                      omega)
                    rcases (show w = 0 ∨ w = 1 ∨ w = 2 by omega) with rfl | rfl | rfl
                    · exact Or.inl rfl
                    · exact Or.inr (Or.inl rfl)
                    · exact Or.inr (Or.inr rfl)
                  have hkd : z'.2.2.1 % 8 < 2 → kd z'.2.2.1 = z'.2.2.1 % 8 := fun h => if_pos h
                  have hkd2 : ¬ z'.2.2.1 % 8 < 2 → kd z'.2.2.1 = z'.2.2.1 % 8 - z'.2.2.1 / 8 - 1 := fun h => if_neg h
                  rcases t3 with rfl | rfl | rfl
                  · rw [if_pos (show Int32.toInt 0 = 0 by decide), if_pos rfl]
                    exact ⟨_, _, _, _, _, _, _, _, _, _, _, _, _, _, _, _, _, _, rfl, rfl⟩
                  · rw [if_neg (show ¬ Int32.toInt 1 = 0 by decide), if_pos (show Int32.toInt 1 = 1 by decide), if_neg (show ¬ (1 : Int32) = 0 by decide), if_pos (show (1 : Int32) = 1 from rfl)]
                    by_cases c : z'.2.2.1 % 8 < 2
                    · have h2 : nn (kd z'.2.2.1) ≤ 2 := nleT (b := 2) (by omega) (by decide) (by omega)
                      rw [if_pos c, if_pos h2, hkd c]
                      exact ⟨_, _, _, _, _, _, _, _, _, _, _, _, _, _, _, _, _, _, rfl, rfl⟩
                    · rw [if_neg c]
                      have h4 : 2 ≤ kd z'.2.2.1 := by rcases s4 with h | h <;> omega
                      by_cases c9 : nn (kd z'.2.2.1) ≤ 2
                      · have h5 : kd z'.2.2.1 ≤ 2 := by
                          have : (nn (kd z'.2.2.1) ≤ nn 2) = (kd z'.2.2.1 ≤ 2) := nn_le (by omega) (by decide)
                          exact this ▸ c9
                        have h6 : kd z'.2.2.1 = 2 := by omega
                        rw [if_pos c9, h6]
                        exact ⟨_, _, _, _, _, _, _, _, _, _, _, _, _, _, _, _, _, _, rfl, rfl⟩
                      · rw [if_neg c9]
                        exact ⟨_, _, _, _, _, _, _, _, _, _, _, _, _, _, _, _, _, _, rfl, rfl⟩
                  · rw [if_neg (show ¬ Int32.toInt 2 = 0 by decide), if_neg (show ¬ Int32.toInt 2 = 1 by decide), if_neg (show ¬ (2 : Int32) = 0 by decide), if_neg (show ¬ (2 : Int32) = 1 by decide)]
                    by_cases c : z'.2.2.1 % 8 < 2
                    · have h2 : ¬ (2 : Int32) ≤ nn (kd z'.2.2.1) := nle (a := 2) (by decide) (by omega) (by rw [hkd c]; omega)
                      rw [if_pos c, if_neg h2]
                      exact ⟨_, _, _, _, _, _, _, _, _, _, _, _, _, _, _, _, _, _, rfl, rfl⟩
                    · have h4 : 2 ≤ kd z'.2.2.1 ∧ z'.2.2.1 / 8 + 2 < z'.2.2.1 % 8 := by rcases s4 with h | h <;> omega
                      have h2 : (2 : Int32) ≤ nn (kd z'.2.2.1) := nleT (a := 2) (by decide) (by omega) h4.1
                      have h5 : nn (z'.2.2.1 / 8) + nn (kd z'.2.2.1) - 1 = nn (z'.2.2.1 % 8 - 2) := by
                        have e7 : nn (z'.2.2.1 / 8 + kd z'.2.2.1) - 1 = nn (z'.2.2.1 / 8 + kd z'.2.2.1 - 1) := nn_sub (b := 1) (by omega)
                        rw [nn_add, e7, hkd2 c]
                        congr 1
                        omega
                      rw [if_neg c, if_pos h2, h5, lt_df]
                      exact ⟨_, _, _, _, _, _, _, _, _, _, _, _, _, _, _, _, _, _, rfl, rfl⟩
                · rw [if_neg c5, if_neg c5]
                  exact ⟨_, _, _, _, _, _, _, _, _, _, _, _, _, _, _, _, _, _, rfl, rfl⟩
              · exact (k2.no m3 j1).elim
          · rw [if_neg c4, if_pos (show nn 2 < a3 from Int32.not_le.mp c4), if_pos rfl]; exact hno
end
