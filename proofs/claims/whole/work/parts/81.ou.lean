/-! a rule's text: comparisons -/
section
variable {b : Nat → Nat} {bytes tape : Nat → Int32} {n i j s e k u : Nat} {code sg0 sgn len : Nat → Int32} {size : Int32} {its : List (Nat × Nat)}
/-- the sign at hand, if it compares -/
theorem cmp_tk {kind sign num : Int32} (hx : TX b bytes tape n) (ht : Tk b n s kind sign e) : (∃ o : Nat, 6 ≤ o ∧ o ≤ 10 ∧ s < n ∧ s < e ∧ e ≤ n ∧ kind = 3 ∧ sign = nn (opC o) ∧ (b s = 60 ∨ b s = 61 ∨ b s = 62) ∧ ∀ u, f12_compare_J44 tape (nn n) (nn k) sgn len (nn s) 0 num (nn u) (nn (b s)) (nn s) = bnd3 (f12_makes 0 (nn u) (nn s)) (fun r_60 z_wrong_61 z_made_62 => if r_60 = 0 then (some (0, sgn, len, nn e, z_wrong_61, num, z_made_62)) else f12_compare_J152 tape (nn n) (nn k) sgn len (nn e) z_wrong_61 num z_made_62 (nn (o - 6)))) ∨
    (¬ (s < n ∧ (b s = 60 ∨ b s = 61 ∨ b s = 62)) ∧ (kind = 3 → f5_compares sign = some 0)) := by
  have hn := hx.1
  have j105 : ∀ (u : Nat) (c o q : Nat) (nx : Int32), ((c = 60 ∧ q = 0 ∧ o = 6) ∨ (c = 60 ∧ q = 1 ∧ o = 7) ∨ (c = 61 ∧ q = 0 ∧ o = 8) ∨ (c = 62 ∧ q = 1 ∧ o = 9) ∨ (c = 62 ∧ q = 0 ∧ o = 10)) → f12_compare_J105 tape (nn n) (nn k) sgn len nx 0 num (nn u) (nn c) (nn s) (nn q) = bnd3 (f12_makes 0 (nn u) (nn s)) (fun r_60 z_wrong_61 z_made_62 => if r_60 = 0 then (some (0, sgn, len, nx, z_wrong_61, num, z_made_62)) else f12_compare_J152 tape (nn n) (nn k) sgn len nx z_wrong_61 num z_made_62 (nn (o - 6))) := by
    intro u c o q nx h
    unfold f12_compare_J105
    congr 1
    funext r w m
    by_cases c0 : r = 0
    · rw [if_pos c0, if_pos c0]
    · rw [if_neg c0, if_neg c0]
      rcases h with ⟨rfl, rfl, rfl⟩ | ⟨rfl, rfl, rfl⟩ | ⟨rfl, rfl, rfl⟩ | ⟨rfl, rfl, rfl⟩ | ⟨rfl, rfl, rfl⟩
      · rw [if_pos (show nn 60 = 60 from rfl), if_pos (show nn 0 = 0 from rfl)]; rfl
      · rw [if_pos (show nn 60 = 60 from rfl), if_neg (show ¬ nn 1 = 0 by decide)]; rfl
      · rw [if_neg (show ¬ nn 61 = 60 by decide), if_pos (show nn 61 = 61 from rfl)]; rfl
      · rw [if_neg (show ¬ nn 62 = 60 by decide), if_neg (show ¬ nn 62 = 61 by decide), if_neg (show ¬ nn 1 = 0 by decide)]; rfl
      · rw [if_neg (show ¬ nn 62 = 60 by decide), if_neg (show ¬ nn 62 = 61 by decide), if_pos (show nn 0 = 0 from rfl)]; rfl
  rcases ht.2 with ⟨h1, h2, rfl⟩ | ⟨h1, h2, h3, h4, h5⟩
  · exact Or.inr ⟨fun h => by omega, fun h => absurd h (by decide)⟩
  · rcases h5 with ⟨g1, rfl, g3, g4⟩ | ⟨g1, rfl, g3, g4⟩ | ⟨g1, g2, rfl, g4⟩
    · have := isLe_iff.mp g1
      exact Or.inr ⟨fun h => by omega, fun h => absurd h (by decide)⟩
    · have := isDi_iff.mp g1
      exact Or.inr ⟨fun h => by omega, fun h => absurd h (by decide)⟩
    · obtain ⟨t1, t2, t3⟩ := hx.2 s h1
      rcases g4 with ⟨q1, q2, q3, rfl, q5⟩ | ⟨q1, rfl, q5⟩
      · left
        obtain ⟨y1, y2, y3⟩ := hx.2 (s + 1) q2
        have h61 : tape (s + 1) = 61 := by rw [y3, q3]; decide
        obtain ⟨o, ho, ho2⟩ : ∃ o, ((b s = 60 ∧ o = 7) ∨ (b s = 62 ∧ o = 9)) ∧ (6 ≤ o ∧ o ≤ 10) := by
          rcases q1 with h | h
          · exact ⟨7, Or.inl ⟨h, rfl⟩, by decide⟩
          · exact ⟨9, Or.inr ⟨h, rfl⟩, by decide⟩
        refine ⟨o, ho2.1, ho2.2, h1, h3, h4, rfl, ?_, by omega, fun u => ?_⟩
        · rcases ho with ⟨h, rfl⟩ | ⟨h, rfl⟩ <;> rw [h] <;> rfl
        · unfold f12_compare_J44
          rw [nn_succ, lt_df, if_neg (show ¬ nn (b s) = 61 from nne (b := 61) (by omega) (by decide) (by omega)), if_neg (nle (by omega) (by omega) (by omega)), nn_nat (show s + 1 < 2147483648 by omega), if_neg (ng (by omega) (by omega)), if_pos h61]
          unfold f12_compare_J90
          rw [if_neg (show ¬ (1 : Int32) = 0 by decide), nn_succ, lt_df]
          rw [show (1 : Int32) = nn 1 from rfl, j105 u (b s) o 1 _ (by omega), q5]
      · by_cases c : b s = 60 ∨ b s = 61 ∨ b s = 62
        · left
          obtain ⟨o, ho, ho2⟩ : ∃ o, ((b s = 60 ∧ o = 6) ∨ (b s = 61 ∧ o = 8) ∨ (b s = 62 ∧ o = 10)) ∧ (6 ≤ o ∧ o ≤ 10) := by
            rcases c with h | h | h
            · exact ⟨6, Or.inl ⟨h, rfl⟩, by decide⟩
            · exact ⟨8, Or.inr (Or.inl ⟨h, rfl⟩), by decide⟩
            · exact ⟨10, Or.inr (Or.inr ⟨h, rfl⟩), by decide⟩
          refine ⟨o, ho2.1, ho2.2, h1, h3, h4, rfl, ?_, c, fun u => ?_⟩
          · rcases ho with ⟨h, rfl⟩ | ⟨h, rfl⟩ | ⟨h, rfl⟩ <;> rw [h] <;> rfl
          · have j89 : f12_compare_J89 tape (nn n) (nn k) sgn len (nn (s + 1)) 0 num (nn u) (nn (b s)) (nn s) = bnd3 (f12_makes 0 (nn u) (nn s)) (fun r_60 z_wrong_61 z_made_62 => if r_60 = 0 then (some (0, sgn, len, nn e, z_wrong_61, num, z_made_62)) else f12_compare_J152 tape (nn n) (nn k) sgn len (nn e) z_wrong_61 num z_made_62 (nn (o - 6))) := by
              unfold f12_compare_J89 f12_compare_J90
              rw [if_pos rfl, show (0 : Int32) = nn 0 from rfl]
              rw [show f12_compare_J105 tape (nn n) (nn k) sgn len (nn (s + 1)) (nn 0) num (nn u) (nn (b s)) (nn s) (nn 0) = _ from j105 u (b s) o 0 _ (by omega), q5]
              rfl
            unfold f12_compare_J44
            rw [nn_succ, lt_df]
            by_cases c61 : b s = 61
            · rw [if_pos (show nn (b s) = 61 by rw [c61]; rfl)]; exact j89
            · rw [if_neg (show ¬ nn (b s) = 61 from nne (b := 61) (by omega) (by decide) c61)]
              by_cases cn : s + 1 < n
              · obtain ⟨y1, y2, y3⟩ := hx.2 (s + 1) cn
                have h61 : ¬ tape (s + 1) = 61 := by
                  rw [y3]
                  intro h
                  have : ∀ x, x < 256 → sb x = 61 → x = 61 := by decide +kernel
                  exact q1 ⟨by omega, cn, this _ y1 h⟩
                rw [if_neg (nle (by omega) (by omega) (by omega)), nn_nat (show s + 1 < 2147483648 by omega), if_neg (ng (by omega) (by omega)), if_neg h61]; exact j89
              · rw [if_pos (nleT (by omega) (by omega) (by omega))]; exact j89
        · right
          refine ⟨fun h => c h.2, fun _ => ?_⟩
          unfold f5_compares
          rw [if_neg (show ¬ nn (b s) = 60 from nne (b := 60) (by omega) (by decide) (by omega)), if_neg (show ¬ nn (b s) = 61 from nne (b := 61) (by omega) (by decide) (by omega)), if_neg (show ¬ nn (b s) = 62 from nne (b := 62) (by omega) (by decide) (by omega)), if_neg (show ¬ nn (b s) = 316 from nne (b := 316) (by omega) (by decide) (by omega)), if_neg (show ¬ nn (b s) = 318 from nne (b := 318) (by omega) (by decide) (by omega))]
theorem c_cmps {o : Nat} (h6 : 6 ≤ o) (h : o ≤ 10) : f5_compares (nn (opC o)) = some 1 := by
  unfold f5_compares f5_compares_J32
  rcases (show o = 6 ∨ o = 7 ∨ o = 8 ∨ o = 9 ∨ o = 10 by omega) with rfl | rfl | rfl | rfl | rfl
  · rw [if_pos (show nn (opC 6) = 60 from rfl)]
  · rw [if_neg (show ¬ nn (opC 7) = 60 by decide), if_neg (show ¬ nn (opC 7) = 61 by decide), if_neg (show ¬ nn (opC 7) = 62 by decide), if_pos (show nn (opC 7) = 316 from rfl)]
  · rw [if_neg (show ¬ nn (opC 8) = 60 by decide), if_pos (show nn (opC 8) = 61 from rfl)]
  · rw [if_neg (show ¬ nn (opC 9) = 60 by decide), if_neg (show ¬ nn (opC 9) = 61 by decide), if_neg (show ¬ nn (opC 9) = 62 by decide), if_neg (show ¬ nn (opC 9) = 316 by decide), if_pos (show nn (opC 9) = 318 from rfl)]
  · rw [if_neg (show ¬ nn (opC 10) = 60 by decide), if_neg (show ¬ nn (opC 10) = 61 by decide), if_pos (show nn (opC 10) = 62 from rfl)]
/-- a comparison -/
theorem r_compare {kind sign num : Int32} {p : Nat} (hk : k < 6) (hx : TX b bytes tape n) (h : Rn isSp b n i s) (ht : Tk b n s kind sign e) (hC : CC code size its) (hM : CM k sg0 sgn len its) (hu : u ≤ 60) (hl : its.length + p ≤ i) :
    (∃ (s1 e1 u1 : Nat) (k1 g1 num1 size1 : Int32) (code1 sgn1 len1 : Nat → Int32) (A : List (Nat × Nat)), i < s1 ∧ u1 ≤ 60 ∧ u + cntP A ≤ u1 ∧ its.length + A.length + p ≤ s1 ∧ f6_readComparison code size (nn u) bytes (nn n) kind sign 0 (nn s) (nn e) = some (1, code1, size1, nn u1, k1, g1, 0, nn s1, nn e1) ∧ f12_compare tape (nn n) sgn len (nn i) 0 num (nn k) (nn u) = some (1, sgn1, len1, nn s1, 0, num1, nn u1) ∧ Rn isSp b n s1 s1 ∧ Tk b n s1 k1 g1 e1 ∧ CC code1 size1 (its ++ A) ∧ CM k sg0 sgn1 len1 (its ++ A) ∧ SgT A) ∨
    (∃ (w : Nat) (code1 : Nat → Int32) (size1 u1 k1 g1 st1 sp1 : Int32) (sgn1 len1 : Nat → Int32) (nx1 num1 ma1 : Int32), 0 < w ∧ (w < 5000 ∧ 0 ≤ size1 ∧ FR k sg0 sgn1) ∧ f6_readComparison code size (nn u) bytes (nn n) kind sign 0 (nn s) (nn e) = some (0, code1, size1, u1, k1, g1, nn w, st1, sp1) ∧ f12_compare tape (nn n) sgn len (nn i) 0 num (nn k) (nn u) = some (0, sgn1, len1, nx1, nn w, num1, ma1)) := by
  have hn := hx.1
  have his := h.1
  unfold f6_readComparison f12_compare
  rcases r_sum (num := num) hk hx h ht hC hM hu hl with ⟨s1, e1, u1, k1, g1, num1, size1, code1, sgn1, len1, A, v1, v2, v3, v4, v5, v6, v7, v8, v9, v10, v11⟩ | ⟨w, code1, size1, u1, k1, g1, st1, sp1, sgn1, len1, nx1, num1, ma1, v1, v2, v3, v4⟩
  · have hs1n := v8.se
    have bad : ∀ q, q < 5 → 0 < 1 + 8 * s1 + q ∧ (1 + 8 * s1 + q < 5000 ∧ 0 ≤ size1 ∧ FR k sg0 sgn1) := fun q hq => ⟨by omega, by omega, by rw [v9.1]; exact n0le (by rw [List.length_append]; omega), v10.2.2⟩
    rw [v5, bnd9_s, if_neg (show ¬ (1 : Int32) = 0 by decide), v6, bnd7_s, if_neg (show ¬ (1 : Int32) = 0 by decide), m_see hx v7, bnd2_s]
    rcases cmp_tk (k := k) (sgn := sgn1) (len := len1) (num := num1) hx v8 with ⟨o, o1, o2, o3, o4, o5, rfl, rfl, o8, o9⟩ | ⟨o1, o2⟩
    · have hv : (if s1 < n then nn (b s1) else (-1 : Int32)) = nn (b s1) := if_pos o3
      have hb := (hx.2 s1 o3).1
      have hj : (if nn (b s1) = 60 then (f12_compare_J44 tape (nn n) (nn k) sgn1 len1 (nn s1) 0 num1 (nn u1) (nn (b s1)) (nn s1)) else (if nn (b s1) = 61 then (f12_compare_J44 tape (nn n) (nn k) sgn1 len1 (nn s1) 0 num1 (nn u1) (nn (b s1)) (nn s1)) else (if nn (b s1) = 62 then (f12_compare_J44 tape (nn n) (nn k) sgn1 len1 (nn s1) 0 num1 (nn u1) (nn (b s1)) (nn s1)) else (bnd2 (f12_fails 0 0 (nn s1)) (fun r_24 z_wrong_25 => if r_24 = 0 ∨ r_24 = 1 then some (r_24, sgn1, len1, nn s1, z_wrong_25, num1, nn u1) else none))))) = f12_compare_J44 tape (nn n) (nn k) sgn1 len1 (nn s1) 0 num1 (nn u1) (nn (b s1)) (nn s1) := by
        by_cases c1 : nn (b s1) = 60
        · rw [if_pos c1]
        · rw [if_neg c1]
          by_cases c2 : nn (b s1) = 61
          · rw [if_pos c2]
          · rw [if_neg c2]
            by_cases c3 : nn (b s1) = 62
            · rw [if_pos c3]
            · exfalso
              rcases o8 with q | q | q
              · exact c1 (by rw [q]; rfl)
              · exact c2 (by rw [q]; rfl)
              · exact c3 (by rw [q]; rfl)
      rw [hv, if_pos rfl, c_cmps o1 o2, bnd1_s, if_neg (show ¬ (1 : Int32) = 0 by decide)]
      rw [hj, o9 u1]
      unfold f12_makes
      by_cases cu : u1 = 60
      · right
        subst cu
        rw [if_neg (show ¬ nn 60 < 60 by decide), show f9_refuse 0 (nn s1) 3 = _ from c_refuse 0 s1 3, bnd2_s, if_pos (Or.inl rfl), if_pos (show nn 60 = 60 from rfl), show f12_fails 0 3 (nn s1) = _ from m_fails s1 3, bnd2_s, if_pos (Or.inl rfl), bnd3_s, if_pos rfl]
        exact ⟨_, _, _, _, _, _, _, _, _, _, _, _, _, (bad 3 (by decide)).1, (bad 3 (by decide)).2, rfl, rfl⟩
      · obtain ⟨s2, k2, g2, e2, t1, t2, t3⟩ := next_tk (kind := 3) (sign := nn (opC o)) (i := e1) (nn s1) hx o5
        have hs2 := t1.1
        rw [if_pos (show nn u1 < 60 from nltT (b := 60) (by omega) (by decide) (by omega)), nn_succ, lt_df, t2, bnd4_s, if_neg (show ¬ nn u1 = 60 from nne (b := 60) (by omega) (by decide) cu), lt_df, bnd3_s, if_neg (show ¬ (1 : Int32) = 0 by decide)]
        unfold f12_compare_J152
        rcases r_sum (num := num1) (p := p + 1) hk hx t1 t3 v9 v10 (show u1 + 1 ≤ 60 by omega) (by rw [List.length_append]; omega) with ⟨s3, e3, u3, k3, g3, num3, size3, code3, sgn3, len3, B, x1, x2, x3, x4, x5, x6, x7, x8, x9, x10, x11⟩ | ⟨w, code3, size3, u3, k3, g3, st3, sp3, sgn3, len3, nx3, num3, ma3, x1, x2, x3, x4⟩
        · left
          have hs3n := x8.se
          rw [List.length_append] at x4
          obtain ⟨code4, size4, c1, c2⟩ := c_op (o := o) x9 (by rw [List.length_append, List.length_append]; omega)
          obtain ⟨sgn4, len4, m1, m2⟩ := m_op (o := o) x10 hk (by rw [List.length_append, List.length_append]; omega)
          have h6o : (6 : Int32) + nn (o - 6) = nn o := by rw [show (6 : Int32) + nn (o - 6) = nn (6 + (o - 6)) from nn_add 6 _]; congr 1; omega
          have happ : its ++ A ++ B ++ [(2, o)] = its ++ (A ++ B ++ [(2, o)]) := by simp only [List.append_assoc]
          rw [happ] at c2 m2
          rw [x5, bnd9_s, if_neg (show ¬ (1 : Int32) = 0 by decide), c1, bnd2_s, x6, bnd7_s, if_neg (show ¬ (1 : Int32) = 0 by decide), h6o, m1, bnd2_s]
          refine ⟨s3, e3, u3, k3, g3, num3, size4, code4, sgn4, len4, A ++ B ++ [(2, o)], by omega, x2, ?_, ?_, rfl, rfl, x7, x8, c2, m2, SgT.cmp o1 o2 v11 x11⟩
          · rw [cntP_app, cntP_app]
            show u + (cntP A + cntP B + 0) ≤ u3
            omega
          · rw [List.length_append, List.length_append]
            show its.length + (A.length + B.length + 1) + p ≤ s3
            omega
        · right
          rw [x3, bnd9_s, if_pos rfl, x4, bnd7_s, if_pos rfl]
          exact ⟨w, _, _, _, _, _, _, _, _, _, _, _, _, x1, x2, rfl, rfl⟩
    · right
      have hcl : f6_readComparison_J35 code1 size1 (nn u1) k1 g1 0 (nn s1) (nn e1) = some (0, code1, size1, nn u1, k1, g1, nn (1 + 8 * s1 + 0), nn s1, nn e1) := by
        unfold f6_readComparison_J35
        rw [show f9_refuse 0 (nn s1) 0 = _ from c_refuse 0 s1 0, bnd2_s, if_pos (Or.inl rfl)]
      have hcl2 : (if k1 = 3 then (bnd1 (f5_compares g1) (fun r_21 => if r_21 = 0 then (f6_readComparison_J35 code1 size1 (nn u1) k1 g1 0 (nn s1) (nn e1)) else none)) else (f6_readComparison_J35 code1 size1 (nn u1) k1 g1 0 (nn s1) (nn e1))) = some (0, code1, size1, nn u1, k1, g1, nn (1 + 8 * s1 + 0), nn s1, nn e1) := by
        by_cases c : k1 = 3
        · rw [if_pos c, o2 c, bnd1_s, if_pos rfl, hcl]
        · rw [if_neg c, hcl]
      have s60 : ∀ c, (c = 60 ∨ c = 61 ∨ c = 62) → ¬ (if s1 < n then nn (b s1) else (-1 : Int32)) = nn c := fun c hc => seeV hx (by omega) (fun q => o1 ⟨q.1, by omega⟩)
      rw [if_neg (show ¬ (if s1 < n then nn (b s1) else (-1 : Int32)) = 60 from s60 60 (by omega)), if_neg (show ¬ (if s1 < n then nn (b s1) else (-1 : Int32)) = 61 from s60 61 (by omega)), if_neg (show ¬ (if s1 < n then nn (b s1) else (-1 : Int32)) = 62 from s60 62 (by omega)), show f12_fails 0 0 (nn s1) = _ from m_fails s1 0, bnd2_s, if_pos (Or.inl rfl)]
      by_cases c : k1 = 3
      · rw [if_pos c, o2 c, bnd1_s, if_pos rfl, hcl]
        exact ⟨_, _, _, _, _, _, _, _, _, _, _, _, _, (bad 0 (by decide)).1, (bad 0 (by decide)).2, rfl, rfl⟩
      · rw [if_neg c, hcl]
        exact ⟨_, _, _, _, _, _, _, _, _, _, _, _, _, (bad 0 (by decide)).1, (bad 0 (by decide)).2, rfl, rfl⟩
  · right
    rw [v3, bnd9_s, if_pos rfl, v4, bnd7_s, if_pos rfl]
    exact ⟨w, _, _, _, _, _, _, _, _, _, _, _, _, v1, v2, rfl, rfl⟩
end
