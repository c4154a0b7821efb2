section
variable {S : Nat → Int32} {R P : Nat} {hour broken rungs people : Int32} {rung grip want slips worn room strength weight told : Nat → Int32}
variable {hb th tb o_brokenRung o_brokenHour o_mendedRung o_mendedHour : Int32} {wl de tr tg tw ts tk : Nat → Int32} {wo : Nat → Int64}
variable {nc ns nt : Nat} {code sumEnd testEnd : Nat → Int32} {stack : Nat → Int64} {top : Int32}
variable {sign clause clauses : Nat → Int32} {force : Int32} {st wd : Nat → Int64} {tp bk bh : Int32} {wil mov : Nat → Int32}

theorem r_goods33_n {p q : Nat} {w : Int32} (hp : p < R) (hq : q < R) (hw : w = -1 ∧ q < p ∨ w = 1 ∧ p < q) (hI : IV R P S) (hW : RWd S th tb tr tg tw ts tk) (hL : RLd R P S rungs people room strength weight told) (hf : force < 0) : ∃ v1 hb1 wl1 de1 h1 b1 rg1 gr1 wt1 sl1 wn1 st1 tp1 wd1 S1 wi1 mo1 bk1, f3_goodsHour_n_J33 rungs people room strength weight told (nn q) (nn p) hb wl de th tb tr tg tw ts tk w = some (v1, hb1, wl1, de1, h1, b1, rg1, gr1, wt1, sl1, wn1) ∧ iter (fun (z : (Nat → Int64) × Int32 × (Nat → Int64) × (Nat → Int32) × (Nat → Int32) × (Nat → Int32) × Int32 × Int32 × Int32 × Int32) => f12_goods_B45 (nn q) sign clause clauses force z.1 z.2.1 z.2.2.1 z.2.2.2.1 z.2.2.2.2.1 z.2.2.2.2.2.1 z.2.2.2.2.2.2.1 z.2.2.2.2.2.2.2.1 z.2.2.2.2.2.2.2.2.1 z.2.2.2.2.2.2.2.2.2) FUEL (st, tp, wd, S, wil, mov, bk, nn p, (-2 : Int32), (0 : Int32)) = some (st1, tp1, wd1, S1, wi1, mo1, bk1, v1) ∧ St S S1 := by
  have hR9 := hI.1.1
  have hP4 := hI.1.2.1
  unfold f3_goodsHour_n_J33
  have key := iter_twoEF (B := (fun (z : Int32 × (Nat → Int32) × (Nat → Int32) × Int32 × Int32 × (Nat → Int32) × (Nat → Int32) × (Nat → Int32) × (Nat → Int32) × Int32 × Int32) => f3_goodsHour_n_B41 tw rungs people room strength weight told (nn q) w z.1 z.2.1 z.2.2.1 z.2.2.2.1 z.2.2.2.2.1 z.2.2.2.2.2.1 z.2.2.2.2.2.2.1 z.2.2.2.2.2.2.2.1 z.2.2.2.2.2.2.2.2.1 z.2.2.2.2.2.2.2.2.2.1 z.2.2.2.2.2.2.2.2.2.2)) (C := (fun (z : (Nat → Int64) × Int32 × (Nat → Int64) × (Nat → Int32) × (Nat → Int32) × (Nat → Int32) × Int32 × Int32 × Int32 × Int32) => f12_goods_B45 (nn q) sign clause clauses force z.1 z.2.1 z.2.2.1 z.2.2.2.1 z.2.2.2.2.1 z.2.2.2.2.2.1 z.2.2.2.2.2.2.1 z.2.2.2.2.2.2.2.1 z.2.2.2.2.2.2.2.2.1 z.2.2.2.2.2.2.2.2.2)) (s := (hb, wl, de, th, tb, tr, tg, ts, tk, (nn p), (0 : Int32))) (t := (st, tp, wd, S, wil, mov, bk, nn p, (-2 : Int32), (0 : Int32))) (n := 200)
    (I := fun n9 a b => ∃ k p, n9 + k = 200 ∧ a.2.2.2.2.2.2.2.2.2.2 = nn k ∧ b.2.2.2.2.2.2.2.2.2 = nn k ∧ a.2.2.2.2.2.2.2.2.2.1 = nn p ∧ b.2.2.2.2.2.2.2.1 = nn p ∧ b.2.2.2.2.2.2.2.2.1 = -2 ∧ p < R ∧ (w = -1 ∧ q < p ∨ w = 1 ∧ p < q) ∧ RWd b.2.2.2.1 a.2.2.2.1 a.2.2.2.2.1 a.2.2.2.2.2.1 a.2.2.2.2.2.2.1 tw a.2.2.2.2.2.2.2.1 a.2.2.2.2.2.2.2.2.1 ∧ IV R P b.2.2.2.1 ∧ St S b.2.2.2.1)
    (Po := fun a b => St S b.2.2.2.1 ∧ ((∃ x, a = .inr x ∧ b.2.2.2.2.2.2.2 = -2) ∨ (∃ x, a = .inl x ∧ x.1 = b.2.2.2.2.2.2.2)))
    ⟨0, p, rfl, rfl, rfl, rfl, rfl, rfl, hp, hw, hW, hI, St.rf⟩ (by omega)
    (by
      rintro n9 ⟨x0, x1, x2, hh, bb, rr, gg, ss, ww, at1, i⟩ ⟨y0, y1, y2, T, y3, y4, y5, at2, ans, j⟩ ⟨k, p, hk, rfl, rfl, rfl, rfl, rfl, hp, hw, hWk, hIk, hSt⟩
      dsimp only at hWk hIk hSt ⊢
      have hne : ¬ nn p = nn q := nne (by omega) (by omega) (by omega)
      unfold f3_goodsHour_n_B41
      rw [show (200 : Int32) = nn 200 from rfl]
      by_cases hkn : 200 ≤ k
      · right
        rw [if_pos (nleT (by omega) (by omega) hkn)]
        exact ⟨_, rfl, fun f hf9 => ⟨_, iter_done (by dsimp only; unfold f12_goods_B45; rw [show (200 : Int32) = nn 200 from rfl, if_pos (nleT (by omega) (by omega) hkn)]) hf9, hSt, Or.inl ⟨_, rfl, rfl⟩⟩⟩
      · obtain ⟨v2, br2, wl2, de2, b2, rg2, gr2, sl2, wn2, T2, wi2, mo2, e1, e2, hW2, hI2, hSt2, hbr2⟩ := r_spend_n (sign := sign) (clause := clause) (clauses := clauses) (hb0 := x0) (bk0 := y5) (tp := y1) (will0 := x1) (deed0 := x2) (wil0 := y3) (moved0 := y4) (st := y0) (wd := y2) hIk hWk (hL.st hSt hR9) hf
        have hto : (if nn q ≤ nn p then nn p - (1 : Int32) else nn p + (1 : Int32)) = nn p + w := by
          rcases hw with ⟨rfl, h⟩ | ⟨rfl, h⟩
          · rw [if_pos (nleT (by omega) (by omega) (by omega)), pd_sub, pd_add]
          · rw [if_neg (nle (by omega) (by omega) (by omega))]
        have href : f12_goods_B45 (nn q) sign clause clauses force y0 y1 y2 T y3 y4 y5 (nn p) (-2) (nn k) = (if nn (crF (gR T2) (nn p) P) ≤ 0 then f12_goods_J99 (nn q) y0 y1 y2 T2 wi2 mo2 br2 (nn p) (-2) (nn k) else if nn (crF (gR T2) (nn p + w) P) ≤ 0 then f12_goods_J99 (nn q) y0 y1 y2 T2 wi2 mo2 br2 (nn p) (-2) (nn k) else f12_goods_J99 (nn q) y0 y1 y2 T2 wi2 mo2 br2 (nn p + w) (-2) (nn k)) := by
          unfold f12_goods_B45 f12_goods_J77
          rw [show (200 : Int32) = nn 200 from rfl, if_neg (nle (by omega) (by omega) hkn), if_neg hne, e2, bnd8_s, m_standing hI2.1.2.2.2.1 hP4, bnd1_s, bnd1_s]
          by_cases hqp : q ≤ p
          · rw [if_pos (nleT (by omega) (by omega) hqp)] at hto ⊢
            rw [hto, m_standing hI2.1.2.2.2.1 hP4, bnd1_s]
          · rw [if_neg (nle (by omega) (by omega) hqp)] at hto ⊢
            rw [hto, m_standing hI2.1.2.2.2.1 hP4, bnd1_s]
        rw [if_neg (nle (by omega) (by omega) hkn), e1, bnd10_s, hL.2.1, c_crowdOn hP4, bnd1_s, crF_congr (g := rg2) (g' := gR T2) (fun p hp => hW2.2.2.1 p (by omega)), c_crowdOn hP4, bnd1_s, crF_congr (g := rg2) (g' := gR T2) (fun p hp => hW2.2.2.1 p (by omega)), lt_df]
        have hS2 : T2 2 - (1 : Int32) = hh := by rw [← hW2.1, Int32.add_sub_cancel]
        unfold f3_goodsHour_n_J105
        unfold f12_goods_J99 at href
        rw [if_neg hne, lt_df, nn_succ] at href
        rw [if_neg hne, lt_df, nn_succ]
        by_cases c1 : nn (crF (gR T2) (nn p) P) ≤ 0
        · left
          rw [if_pos c1] at href ⊢
          rw [href]
          exact ⟨_, _, n9 - 1, rfl, rfl, by omega, k + 1, p, by omega, rfl, rfl, rfl, rfl, rfl, hp, hw, hW2, hI2, hSt.tr hSt2⟩
        · rw [if_neg c1] at href ⊢
          by_cases c2 : nn (crF (gR T2) (nn p + w) P) ≤ 0
          · left
            rw [if_pos c2] at href ⊢
            rw [href]
            exact ⟨_, _, n9 - 1, rfl, rfl, by omega, k + 1, p, by omega, rfl, rfl, rfl, rfl, rfl, hp, hw, hW2, hI2, hSt.tr hSt2⟩
          · rw [if_neg c2] at href ⊢
            obtain ⟨p', hp', hpw⟩ : ∃ p', p' < R ∧ (w = -1 ∧ q ≤ p' ∧ nn p + w = nn p' ∨ w = 1 ∧ p' ≤ q ∧ nn p + w = nn p') := by
              rcases hw with ⟨rfl, h⟩ | ⟨rfl, h⟩
              · obtain ⟨u, rfl⟩ : ∃ u, p = u + 1 := ⟨p - 1, by omega⟩
                exact ⟨u, by omega, Or.inl ⟨rfl, by omega, nn_pred u⟩⟩
              · exact ⟨p + 1, by omega, Or.inr ⟨rfl, by omega, nn_succ p⟩⟩
            have hpe : nn p + w = nn p' := by rcases hpw with ⟨_, _, h⟩ | ⟨_, _, h⟩ <;> exact h
            rw [hpe] at href ⊢
            by_cases c3 : p' = q
            · right
              subst c3
              rw [if_pos rfl, hS2, lt_df, lt_df] at href
              rw [if_pos rfl]
              refine ⟨_, rfl, fun f hf9 => ?_⟩
              obtain ⟨f, rfl⟩ : ∃ u, f = u + 1 := ⟨f - 1, by omega⟩
              refine ⟨_, by unfold iter; dsimp only; rw [href]; exact iter_done (n := n9 - 1) (by dsimp only; unfold f12_goods_B45; rw [show (200 : Int32) = nn 200 from rfl, if_pos (rfl : nn p' = nn p'), ite_self]) (by omega), hSt.tr hSt2, Or.inr ⟨_, rfl, rfl⟩⟩
            · left
              rw [if_neg (nne (by omega) (by omega) c3), lt_df] at href
              rw [if_neg (nne (by omega) (by omega) c3), lt_df, href]
              exact ⟨_, _, n9 - 1, rfl, rfl, by omega, k + 1, p', by omega, rfl, rfl, rfl, rfl, rfl, hp', by rcases hpw with ⟨h, h2, _⟩ | ⟨h, h2, _⟩; exact Or.inl ⟨h, by omega⟩; exact Or.inr ⟨h, by omega⟩, hW2, hI2, hSt.tr hSt2⟩)
  obtain ⟨a, ⟨y0, y1, y2, T, y3, y4, y5, ans⟩, e1, e2, hs, h⟩ := key
  rw [e1]
  rcases h with ⟨⟨u0, u1, u2, u3, u4, u5, u6, u7, u8⟩, rfl, h⟩ | ⟨⟨u0, u1, u2, u3, u4, u5, u6, u7, u8, u9, u10⟩, rfl, h⟩
  · dsimp only at h
    subst h
    rw [bndS9_r]
    exact ⟨_, _, _, _, _, _, _, _, _, _, _, _, _, _, _, _, _, _,  rfl, e2, hs⟩
  · dsimp only at h
    subst h
    rw [bndS9_l]
    exact ⟨_, _, _, _, _, _, _, _, _, _, _, _, _, _, _, _, _, _,  rfl, e2, hs⟩
theorem r_goods_n {p q : Nat} (hp : p < R) (hq : q < R) (hI : IV R P S) (hW : RWd S hour broken rung grip want slips worn) (hL : RLd R P S rungs people room strength weight told) (hf : force < 0) : ∃ v1 hb1 wl1 de1 h1 b1 rg1 gr1 wt1 sl1 wn1 st1 tp1 wd1 S1 wi1 mo1 bk1, f3_goodsHour_n hb wl de th tb tr tg tw ts tk hour broken rung grip want slips worn rungs people room strength weight told (nn p) (nn q) = some (v1, hb1, wl1, de1, h1, b1, rg1, gr1, wt1, sl1, wn1) ∧ iter (fun (z : (Nat → Int64) × Int32 × (Nat → Int64) × (Nat → Int32) × (Nat → Int32) × (Nat → Int32) × Int32 × Int32 × Int32 × Int32) => f12_goods_B45 (nn q) sign clause clauses force z.1 z.2.1 z.2.2.1 z.2.2.2.1 z.2.2.2.2.1 z.2.2.2.2.2.1 z.2.2.2.2.2.2.1 z.2.2.2.2.2.2.2.1 z.2.2.2.2.2.2.2.2.1 z.2.2.2.2.2.2.2.2.2) FUEL (st, tp, wd, S, wil, mov, bk, nn p, (if nn p = nn q then S 2 else -2), (0 : Int32)) = some (st1, tp1, wd1, S1, wi1, mo1, bk1, v1) ∧ St S S1 := by
  have hR9 := hI.1.1
  unfold f3_goodsHour_n
  rw [c_copyFrom, bnd7_s]
  by_cases he : nn p = nn q
  · rw [if_pos he, if_pos he, hW.1]
    exact ⟨_, _, _, _, _, _, _, _, _, _, _, _, _, _, _, _, _, _,  rfl, iter_done (n := 0) (by dsimp only; unfold f12_goods_B45; rw [if_neg (show ¬ (200 : Int32) ≤ 0 by decide), if_pos he]) (by decide), St.rf⟩
  · rw [if_neg he, if_neg he]
    have hpq : p ≠ q := fun h => he (by rw [h])
    by_cases hle : q ≤ p
    · rw [if_pos (nleT (by omega) (by omega) hle)]
      exact r_goods33_n hp hq (Or.inl ⟨rfl, by omega⟩) hI hW.copy hL hf
    · rw [if_neg (nle (by omega) (by omega) hle)]
      exact r_goods33_n hp hq (Or.inr ⟨rfl, by omega⟩) hI hW.copy hL hf
theorem r_goods33 {p q : Nat} {w : Int32} (hp : p < R) (hq : q < R) (hw : w = -1 ∧ q < p ∨ w = 1 ∧ p < q) (hI : IV R P S) (hW : RWd S th tb tr tg tw ts tk) (hL : RLd R P S rungs people room strength weight told) (hf : ¬ force < 0) (hE : REv nc code ns sumEnd nt testEnd sign clause clauses force) : ∃ v1 hb1 wl1 de1 wo1 h1 b1 rg1 gr1 wt1 sl1 wn1 sk1 tq1 st1 tp1 wd1 S1 wi1 mo1 bk1, f3_goodsHour_J33 rungs people room strength weight told nc code ns sumEnd nt testEnd (nn q) (nn p) hb wl de wo th tb tr tg tw ts tk stack top w = some (v1, hb1, wl1, de1, wo1, h1, b1, rg1, gr1, wt1, sl1, wn1, sk1, tq1) ∧ iter (fun (z : (Nat → Int64) × Int32 × (Nat → Int64) × (Nat → Int32) × (Nat → Int32) × (Nat → Int32) × Int32 × Int32 × Int32 × Int32) => f12_goods_B45 (nn q) sign clause clauses force z.1 z.2.1 z.2.2.1 z.2.2.2.1 z.2.2.2.2.1 z.2.2.2.2.2.1 z.2.2.2.2.2.2.1 z.2.2.2.2.2.2.2.1 z.2.2.2.2.2.2.2.2.1 z.2.2.2.2.2.2.2.2.2) FUEL (st, tp, wd, S, wil, mov, bk, nn p, (-2 : Int32), (0 : Int32)) = some (st1, tp1, wd1, S1, wi1, mo1, bk1, v1) ∧ St S S1 := by
  have hR9 := hI.1.1
  have hP4 := hI.1.2.1
  unfold f3_goodsHour_J33
  have key := iter_twoEF (B := (fun (z : Int32 × (Nat → Int32) × (Nat → Int32) × (Nat → Int64) × Int32 × Int32 × (Nat → Int32) × (Nat → Int32) × (Nat → Int32) × (Nat → Int32) × (Nat → Int64) × Int32 × Int32 × Int32) => f3_goodsHour_B41 tw rungs people room strength weight told nc code ns sumEnd nt testEnd (nn q) w z.1 z.2.1 z.2.2.1 z.2.2.2.1 z.2.2.2.2.1 z.2.2.2.2.2.1 z.2.2.2.2.2.2.1 z.2.2.2.2.2.2.2.1 z.2.2.2.2.2.2.2.2.1 z.2.2.2.2.2.2.2.2.2.1 z.2.2.2.2.2.2.2.2.2.2.1 z.2.2.2.2.2.2.2.2.2.2.2.1 z.2.2.2.2.2.2.2.2.2.2.2.2.1 z.2.2.2.2.2.2.2.2.2.2.2.2.2)) (C := (fun (z : (Nat → Int64) × Int32 × (Nat → Int64) × (Nat → Int32) × (Nat → Int32) × (Nat → Int32) × Int32 × Int32 × Int32 × Int32) => f12_goods_B45 (nn q) sign clause clauses force z.1 z.2.1 z.2.2.1 z.2.2.2.1 z.2.2.2.2.1 z.2.2.2.2.2.1 z.2.2.2.2.2.2.1 z.2.2.2.2.2.2.2.1 z.2.2.2.2.2.2.2.2.1 z.2.2.2.2.2.2.2.2.2)) (s := (hb, wl, de, wo, th, tb, tr, tg, ts, tk, stack, top, (nn p), (0 : Int32))) (t := (st, tp, wd, S, wil, mov, bk, nn p, (-2 : Int32), (0 : Int32))) (n := 200)
    (I := fun n9 a b => ∃ k p, n9 + k = 200 ∧ a.2.2.2.2.2.2.2.2.2.2.2.2.2 = nn k ∧ b.2.2.2.2.2.2.2.2.2 = nn k ∧ a.2.2.2.2.2.2.2.2.2.2.2.2.1 = nn p ∧ b.2.2.2.2.2.2.2.1 = nn p ∧ b.2.2.2.2.2.2.2.2.1 = -2 ∧ p < R ∧ (w = -1 ∧ q < p ∨ w = 1 ∧ p < q) ∧ RWd b.2.2.2.1 a.2.2.2.2.1 a.2.2.2.2.2.1 a.2.2.2.2.2.2.1 a.2.2.2.2.2.2.2.1 tw a.2.2.2.2.2.2.2.2.1 a.2.2.2.2.2.2.2.2.2.1 ∧ IV R P b.2.2.2.1 ∧ St S b.2.2.2.1)
    (Po := fun a b => St S b.2.2.2.1 ∧ ((∃ x, a = .inr x ∧ b.2.2.2.2.2.2.2 = -2) ∨ (∃ x, a = .inl x ∧ x.1 = b.2.2.2.2.2.2.2)))
    ⟨0, p, rfl, rfl, rfl, rfl, rfl, rfl, hp, hw, hW, hI, St.rf⟩ (by omega)
    (by
      rintro n9 ⟨x0, x1, x2, x3, hh, bb, rr, gg, ss, ww, xs, xt, at1, i⟩ ⟨y0, y1, y2, T, y3, y4, y5, at2, ans, j⟩ ⟨k, p, hk, rfl, rfl, rfl, rfl, rfl, hp, hw, hWk, hIk, hSt⟩
      dsimp only at hWk hIk hSt ⊢
      have hne : ¬ nn p = nn q := nne (by omega) (by omega) (by omega)
      unfold f3_goodsHour_B41
      rw [show (200 : Int32) = nn 200 from rfl]
      by_cases hkn : 200 ≤ k
      · right
        rw [if_pos (nleT (by omega) (by omega) hkn)]
        exact ⟨_, rfl, fun f hf9 => ⟨_, iter_done (by dsimp only; unfold f12_goods_B45; rw [show (200 : Int32) = nn 200 from rfl, if_pos (nleT (by omega) (by omega) hkn)]) hf9, hSt, Or.inl ⟨_, rfl, rfl⟩⟩⟩
      · obtain ⟨v2, br2, wl2, de2, wo2, b2, rg2, gr2, sl2, wn2, sk2, tq2, st2, tp2, wd2, T2, wi2, mo2, e1, e2, hW2, hI2, hSt2, hbr2⟩ := r_spend  (hb0 := x0) (bk0 := y5) (tp := y1) (will0 := x1) (deed0 := x2) (wil0 := y3) (moved0 := y4) (st := y0) (wd := y2) (words := x3) (stack := xs) (top := xt) hIk hWk (hL.st hSt hR9) hf hE
        have hto : (if nn q ≤ nn p then nn p - (1 : Int32) else nn p + (1 : Int32)) = nn p + w := by
          rcases hw with ⟨rfl, h⟩ | ⟨rfl, h⟩
          · rw [if_pos (nleT (by omega) (by omega) (by omega)), pd_sub, pd_add]
          · rw [if_neg (nle (by omega) (by omega) (by omega))]
        have href : f12_goods_B45 (nn q) sign clause clauses force y0 y1 y2 T y3 y4 y5 (nn p) (-2) (nn k) = (if nn (crF (gR T2) (nn p) P) ≤ 0 then f12_goods_J99 (nn q) st2 tp2 wd2 T2 wi2 mo2 br2 (nn p) (-2) (nn k) else if nn (crF (gR T2) (nn p + w) P) ≤ 0 then f12_goods_J99 (nn q) st2 tp2 wd2 T2 wi2 mo2 br2 (nn p) (-2) (nn k) else f12_goods_J99 (nn q) st2 tp2 wd2 T2 wi2 mo2 br2 (nn p + w) (-2) (nn k)) := by
          unfold f12_goods_B45 f12_goods_J77
          rw [show (200 : Int32) = nn 200 from rfl, if_neg (nle (by omega) (by omega) hkn), if_neg hne, e2, bnd8_s, m_standing hI2.1.2.2.2.1 hP4, bnd1_s, bnd1_s]
          by_cases hqp : q ≤ p
          · rw [if_pos (nleT (by omega) (by omega) hqp)] at hto ⊢
            rw [hto, m_standing hI2.1.2.2.2.1 hP4, bnd1_s]
          · rw [if_neg (nle (by omega) (by omega) hqp)] at hto ⊢
            rw [hto, m_standing hI2.1.2.2.2.1 hP4, bnd1_s]
        rw [if_neg (nle (by omega) (by omega) hkn), e1, bnd13_s, hL.2.1, c_crowdOn hP4, bnd1_s, crF_congr (g := rg2) (g' := gR T2) (fun p hp => hW2.2.2.1 p (by omega)), c_crowdOn hP4, bnd1_s, crF_congr (g := rg2) (g' := gR T2) (fun p hp => hW2.2.2.1 p (by omega)), lt_df]
        have hS2 : T2 2 - (1 : Int32) = hh := by rw [← hW2.1, Int32.add_sub_cancel]
        unfold f3_goodsHour_J105
        unfold f12_goods_J99 at href
        rw [if_neg hne, lt_df, nn_succ] at href
        rw [if_neg hne, lt_df, nn_succ]
        by_cases c1 : nn (crF (gR T2) (nn p) P) ≤ 0
        · left
          rw [if_pos c1] at href ⊢
          rw [href]
          exact ⟨_, _, n9 - 1, rfl, rfl, by omega, k + 1, p, by omega, rfl, rfl, rfl, rfl, rfl, hp, hw, hW2, hI2, hSt.tr hSt2⟩
        · rw [if_neg c1] at href ⊢
          by_cases c2 : nn (crF (gR T2) (nn p + w) P) ≤ 0
          · left
            rw [if_pos c2] at href ⊢
            rw [href]
            exact ⟨_, _, n9 - 1, rfl, rfl, by omega, k + 1, p, by omega, rfl, rfl, rfl, rfl, rfl, hp, hw, hW2, hI2, hSt.tr hSt2⟩
          · rw [if_neg c2] at href ⊢
            obtain ⟨p', hp', hpw⟩ : ∃ p', p' < R ∧ (w = -1 ∧ q ≤ p' ∧ nn p + w = nn p' ∨ w = 1 ∧ p' ≤ q ∧ nn p + w = nn p') := by
              rcases hw with ⟨rfl, h⟩ | ⟨rfl, h⟩
              · obtain ⟨u, rfl⟩ : ∃ u, p = u + 1 := ⟨p - 1, by omega⟩
                exact ⟨u, by omega, Or.inl ⟨rfl, by omega, nn_pred u⟩⟩
              · exact ⟨p + 1, by omega, Or.inr ⟨rfl, by omega, nn_succ p⟩⟩
            have hpe : nn p + w = nn p' := by rcases hpw with ⟨_, _, h⟩ | ⟨_, _, h⟩ <;> exact h
            rw [hpe] at href ⊢
            by_cases c3 : p' = q
            · right
              subst c3
              rw [if_pos rfl, hS2, lt_df, lt_df] at href
              rw [if_pos rfl]
              refine ⟨_, rfl, fun f hf9 => ?_⟩
              obtain ⟨f, rfl⟩ : ∃ u, f = u + 1 := ⟨f - 1, by omega⟩
              refine ⟨_, by unfold iter; dsimp only; rw [href]; exact iter_done (n := n9 - 1) (by dsimp only; unfold f12_goods_B45; rw [show (200 : Int32) = nn 200 from rfl, if_pos (rfl : nn p' = nn p'), ite_self]) (by omega), hSt.tr hSt2, Or.inr ⟨_, rfl, rfl⟩⟩
            · left
              rw [if_neg (nne (by omega) (by omega) c3), lt_df] at href
              rw [if_neg (nne (by omega) (by omega) c3), lt_df, href]
              exact ⟨_, _, n9 - 1, rfl, rfl, by omega, k + 1, p', by omega, rfl, rfl, rfl, rfl, rfl, hp', by rcases hpw with ⟨h, h2, _⟩ | ⟨h, h2, _⟩; exact Or.inl ⟨h, by omega⟩; exact Or.inr ⟨h, by omega⟩, hW2, hI2, hSt.tr hSt2⟩)
  obtain ⟨a, ⟨y0, y1, y2, T, y3, y4, y5, ans⟩, e1, e2, hs, h⟩ := key
  rw [e1]
  rcases h with ⟨⟨u0, u1, u2, u3, u4, u5, u6, u7, u8, u9, u10, u11⟩, rfl, h⟩ | ⟨⟨u0, u1, u2, u3, u4, u5, u6, u7, u8, u9, u10, u11, u12, u13⟩, rfl, h⟩
  · dsimp only at h
    subst h
    rw [bndS12_r]
    exact ⟨_, _, _, _, _, _, _, _, _, _, _, _, _, _, _, _, _, _, _, _, _,  rfl, e2, hs⟩
  · dsimp only at h
    subst h
    rw [bndS12_l]
    exact ⟨_, _, _, _, _, _, _, _, _, _, _, _, _, _, _, _, _, _, _, _, _,  rfl, e2, hs⟩
theorem r_goods {p q : Nat} (hp : p < R) (hq : q < R) (hI : IV R P S) (hW : RWd S hour broken rung grip want slips worn) (hL : RLd R P S rungs people room strength weight told) (hf : ¬ force < 0) (hE : REv nc code ns sumEnd nt testEnd sign clause clauses force) : ∃ v1 hb1 wl1 de1 wo1 h1 b1 rg1 gr1 wt1 sl1 wn1 sk1 tq1 st1 tp1 wd1 S1 wi1 mo1 bk1, f3_goodsHour hb wl de wo th tb tr tg tw ts tk hour broken rung grip want slips worn rungs people room strength weight told nc code ns sumEnd nt testEnd stack top (nn p) (nn q) = some (v1, hb1, wl1, de1, wo1, h1, b1, rg1, gr1, wt1, sl1, wn1, sk1, tq1) ∧ iter (fun (z : (Nat → Int64) × Int32 × (Nat → Int64) × (Nat → Int32) × (Nat → Int32) × (Nat → Int32) × Int32 × Int32 × Int32 × Int32) => f12_goods_B45 (nn q) sign clause clauses force z.1 z.2.1 z.2.2.1 z.2.2.2.1 z.2.2.2.2.1 z.2.2.2.2.2.1 z.2.2.2.2.2.2.1 z.2.2.2.2.2.2.2.1 z.2.2.2.2.2.2.2.2.1 z.2.2.2.2.2.2.2.2.2) FUEL (st, tp, wd, S, wil, mov, bk, nn p, (if nn p = nn q then S 2 else -2), (0 : Int32)) = some (st1, tp1, wd1, S1, wi1, mo1, bk1, v1) ∧ St S S1 := by
  have hR9 := hI.1.1
  unfold f3_goodsHour
  rw [c_copyFrom, bnd7_s]
  by_cases he : nn p = nn q
  · rw [if_pos he, if_pos he, hW.1]
    exact ⟨_, _, _, _, _, _, _, _, _, _, _, _, _, _, _, _, _, _, _, _, _,  rfl, iter_done (n := 0) (by dsimp only; unfold f12_goods_B45; rw [if_neg (show ¬ (200 : Int32) ≤ 0 by decide), if_pos he]) (by decide), St.rf⟩
  · rw [if_neg he, if_neg he]
    have hpq : p ≠ q := fun h => he (by rw [h])
    by_cases hle : q ≤ p
    · rw [if_pos (nleT (by omega) (by omega) hle)]
      exact r_goods33 hp hq (Or.inl ⟨rfl, by omega⟩) hI hW.copy hL hf hE
    · rw [if_neg (nle (by omega) (by omega) hle)]
      exact r_goods33 hp hq (Or.inr ⟨rfl, by omega⟩) hI hW.copy hL hf hE
end
