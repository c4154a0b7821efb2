section
variable {S : Nat → Int32} {R P : Nat} {hour broken rungs people : Int32} {rung grip want slips worn room strength weight told : Nat → Int32}
variable {hb th tb o_brokenRung o_brokenHour o_mendedRung o_mendedHour : Int32} {wl de tr tg tw ts tk : Nat → Int32} {wo : Nat → Int64}
variable {nc ns nt : Nat} {code sumEnd testEnd : Nat → Int32} {stack : Nat → Int64} {top : Int32}
variable {sign clause clauses : Nat → Int32} {force : Int32} {st wd : Nat → Int64} {tp bk bh : Int32} {wil mov : Nat → Int32}

variable {kept : Nat → Int32} {pp : Int32}
theorem r_blow53_n {n d0 : Nat} {ws0 : Int32} (hn : n < 1000) (hd : d0 < 2147483648) (hI : IV R P S) (hW : RWd S th tb tr tg tw ts tk) (hL : RLd R P S rungs people room strength weight told) (hf : force < 0) : ∃ ws1 wx1 hb1 wl1 de1 h1 b1 rg1 gr1 sl1 wn1 st1 tp1 wd1 S1 wi1 mo1 bk1 dx1 d1, iter (fun (z : Int32 × Int32 × Int32 × (Nat → Int32) × (Nat → Int32) × Int32 × Int32 × (Nat → Int32) × (Nat → Int32) × (Nat → Int32) × (Nat → Int32) × Int32) => f3_blow_n_B53 (nn n) people pp tw rungs room strength weight told z.1 z.2.1 z.2.2.1 z.2.2.2.1 z.2.2.2.2.1 z.2.2.2.2.2.1 z.2.2.2.2.2.2.1 z.2.2.2.2.2.2.2.1 z.2.2.2.2.2.2.2.2.1 z.2.2.2.2.2.2.2.2.2.1 z.2.2.2.2.2.2.2.2.2.2.1 z.2.2.2.2.2.2.2.2.2.2.2) FUEL (ws0, nn d0, hb, wl, de, th, tb, tr, tg, ts, tk, (0 : Int32)) = some (ws1, wx1, hb1, wl1, de1, h1, b1, rg1, gr1, sl1, wn1) ∧ iter (fun (z : (Nat → Int64) × Int32 × (Nat → Int64) × (Nat → Int32) × (Nat → Int32) × (Nat → Int32) × Int32 × Int64 × Int32 × Int32) => f12_years_B93 (nn n) pp sign clause clauses force z.1 z.2.1 z.2.2.1 z.2.2.2.1 z.2.2.2.2.1 z.2.2.2.2.2.1 z.2.2.2.2.2.2.1 z.2.2.2.2.2.2.2.1 z.2.2.2.2.2.2.2.2.1 z.2.2.2.2.2.2.2.2.2) FUEL (st, tp, wd, S, wil, mov, bk, lN d0, ws0, (0 : Int32)) = some (st1, tp1, wd1, S1, wi1, mo1, bk1, dx1, ws1) ∧ wx1 = nn d1 ∧ dx1 = lN d1 ∧ d1 < 2147483648 ∧ RWd S1 h1 b1 rg1 gr1 tw sl1 wn1 ∧ IV R P S1 ∧ St S S1 := by
  have hR9 := hI.1.1
  have key := iter_twoF (B := (fun (z : Int32 × Int32 × Int32 × (Nat → Int32) × (Nat → Int32) × Int32 × Int32 × (Nat → Int32) × (Nat → Int32) × (Nat → Int32) × (Nat → Int32) × Int32) => f3_blow_n_B53 (nn n) people pp tw rungs room strength weight told z.1 z.2.1 z.2.2.1 z.2.2.2.1 z.2.2.2.2.1 z.2.2.2.2.2.1 z.2.2.2.2.2.2.1 z.2.2.2.2.2.2.2.1 z.2.2.2.2.2.2.2.2.1 z.2.2.2.2.2.2.2.2.2.1 z.2.2.2.2.2.2.2.2.2.2.1 z.2.2.2.2.2.2.2.2.2.2.2)) (C := (fun (z : (Nat → Int64) × Int32 × (Nat → Int64) × (Nat → Int32) × (Nat → Int32) × (Nat → Int32) × Int32 × Int64 × Int32 × Int32) => f12_years_B93 (nn n) pp sign clause clauses force z.1 z.2.1 z.2.2.1 z.2.2.2.1 z.2.2.2.2.1 z.2.2.2.2.2.1 z.2.2.2.2.2.2.1 z.2.2.2.2.2.2.2.1 z.2.2.2.2.2.2.2.2.1 z.2.2.2.2.2.2.2.2.2)) (s := (ws0, nn d0, hb, wl, de, th, tb, tr, tg, ts, tk, (0 : Int32))) (t := (st, tp, wd, S, wil, mov, bk, lN d0, ws0, (0 : Int32))) (n := n)
    (I := fun n9 a b => ∃ k d, n9 + k = n ∧ a.2.2.2.2.2.2.2.2.2.2.2 = nn k ∧ b.2.2.2.2.2.2.2.2.2 = nn k ∧ a.2.1 = nn d ∧ b.2.2.2.2.2.2.2.1 = lN d ∧ d < 2147483648 ∧ a.1 = b.2.2.2.2.2.2.2.2.1 ∧ RWd b.2.2.2.1 a.2.2.2.2.2.1 a.2.2.2.2.2.2.1 a.2.2.2.2.2.2.2.1 a.2.2.2.2.2.2.2.2.1 tw a.2.2.2.2.2.2.2.2.2.1 a.2.2.2.2.2.2.2.2.2.2.1 ∧ IV R P b.2.2.2.1 ∧ St S b.2.2.2.1)
    (Po := fun a b => ∃ d, a.2.1 = nn d ∧ b.2.2.2.2.2.2.2.1 = lN d ∧ d < 2147483648 ∧ a.1 = b.2.2.2.2.2.2.2.2 ∧ RWd b.2.2.2.1 a.2.2.2.2.2.1 a.2.2.2.2.2.2.1 a.2.2.2.2.2.2.2.1 a.2.2.2.2.2.2.2.2.1 tw a.2.2.2.2.2.2.2.2.2.1 a.2.2.2.2.2.2.2.2.2.2 ∧ IV R P b.2.2.2.1 ∧ St S b.2.2.2.1)
    ⟨0, d0, rfl, rfl, rfl, rfl, rfl, hd, rfl, hW, hI, St.rf⟩ (by omega)
    (by
      rintro n9 ⟨w8, w9, x0, x1, x2, hh, bb, rr, gg, ss, ww, i⟩ ⟨y0, y1, y2, T, y3, y4, y5, dx, sx, j⟩ ⟨k, d, hk, rfl, rfl, rfl, rfl, hd, rfl, hWk, hIk, hSt⟩
      dsimp only at hWk hIk hSt ⊢
      unfold f3_blow_n_B53 f12_years_B93
      by_cases hkn : n ≤ k
      · right
        rw [if_pos (nleT (by omega) (by omega) hkn), if_pos (nleT (by omega) (by omega) hkn)]
        exact ⟨_, _, rfl, rfl, d, rfl, rfl, hd, rfl, hWk, hIk, hSt⟩
      · left
        obtain ⟨d', gr', U, f1, f2, hd', hWl, hIl, hStl⟩ := r_loosen (pp := pp) hd hIk hWk
        obtain ⟨v2, br2, wl2, de2, b2, rg2, gr2, sl2, wn2, T2, wi2, mo2, e1, e2, hW2, hI2, hSt2, hbr2⟩ := r_spend_n (sign := sign) (clause := clause) (clauses := clauses) (hb0 := x0) (bk0 := y5) (tp := y1) (will0 := x1) (deed0 := x2) (wil0 := y3) (moved0 := y4) (st := y0) (wd := y2) hIl hWl (hL.st (hSt.tr hStl) hR9) hf
        rw [if_neg (nle (by omega) (by omega) hkn), if_neg (nle (by omega) (by omega) hkn), hL.2.1, f1, f2, bnd2_s, bnd2_s]
        rw [hL.2.1] at e1
        rw [e1, bnd10_s, e2, bnd8_s]
        simp only [lt_df, nn_succ]
        refine ⟨_, _, n9 - 1, rfl, rfl, by omega, k + 1, d', by omega, rfl, rfl, rfl, rfl, hd', rfl, hW2, hI2, (hSt.tr hStl).tr hSt2⟩)
  obtain ⟨⟨w8, w9, x0, x1, x2, hh, bb, rr, gg, ss, ww⟩, ⟨y0, y1, y2, T, y3, y4, y5, dx, sx⟩, e1, e2, d, h1, h2, h3, h4, h5, h6, h7⟩ := key
  dsimp only at h4
  subst h4
  exact ⟨_, _, _, _, _, _, _, _, _, _, _, _, _, _, _, _, _, _, _,  d, e1, e2, h1, h2, h3, h5, h6, h7⟩
theorem r_blow_n {m n d0 : Nat} {ws0 wf0 wx0 : Int32} (hm : m < 1000) (hn : n < 1000) (hd : d0 < 2147483648) (hI : IV R P S) (hW : RWd S hour broken rung grip want slips worn) (hL : RLd R P S rungs people room strength weight told) (hf : force < 0) : ∃ ws1 wf1 wx1 hb1 wl1 de1 h1 b1 rg1 gr1 wt1 sl1 wn1 st1 tp1 wd1 wi1 mo1 bk1 dx1, f3_blow_n ws0 wf0 wx0 hb wl de th tb tr tg tw ts tk (nn d0) hour broken rung grip want slips worn rungs people room strength weight told (nn m) (nn n) pp = some (ws1, wf1, wx1, hb1, wl1, de1, h1, b1, rg1, gr1, wt1, sl1, wn1) ∧ iter (fun (z : (Nat → Int64) × Int32 × (Nat → Int64) × (Nat → Int32) × (Nat → Int32) × (Nat → Int32) × Int32 × Int64 × Int32 × Int32 × Int32) => f12_years_B84 (nn m) (nn n) pp sign clause clauses force (nn (nfF (gR S) P)) (ov 62 S kept) z.1 z.2.1 z.2.2.1 z.2.2.2.1 z.2.2.2.2.1 z.2.2.2.2.2.1 z.2.2.2.2.2.2.1 z.2.2.2.2.2.2.2.1 z.2.2.2.2.2.2.2.2.1 z.2.2.2.2.2.2.2.2.2.1 z.2.2.2.2.2.2.2.2.2.2) FUEL (st, tp, wd, S, wil, mov, bk, lN d0, (0 : Int32), (0 : Int32), (0 : Int32)) = some (st1, tp1, wd1, S, wi1, mo1, bk1, dx1, ws1, wf1) := by
  have hR9 := hI.1.1
  have hP4 := hI.1.2.1
  unfold f3_blow_n
  obtain ⟨wl0, g1, g2⟩ := c_left hI hW
  rw [hL.2.1, g1, bnd1_s, g2, bnd1_s]
  have key := iter_twoF (B := (fun (z : Int32 × Int32 × Int32 × Int32 × (Nat → Int32) × (Nat → Int32) × Int32 × Int32 × (Nat → Int32) × (Nat → Int32) × (Nat → Int32) × (Nat → Int32) × (Nat → Int32) × Int32) => f3_blow_n_B33 (nn m) hour broken rung grip want slips worn (nn n) (nn P) pp rungs room strength weight told (nn (P - nfF (gR S) P)) z.1 z.2.1 z.2.2.1 z.2.2.2.1 z.2.2.2.2.1 z.2.2.2.2.2.1 z.2.2.2.2.2.2.1 z.2.2.2.2.2.2.2.1 z.2.2.2.2.2.2.2.2.1 z.2.2.2.2.2.2.2.2.2.1 z.2.2.2.2.2.2.2.2.2.2.1 z.2.2.2.2.2.2.2.2.2.2.2.1 z.2.2.2.2.2.2.2.2.2.2.2.2.1 z.2.2.2.2.2.2.2.2.2.2.2.2.2)) (C := (fun (z : (Nat → Int64) × Int32 × (Nat → Int64) × (Nat → Int32) × (Nat → Int32) × (Nat → Int32) × Int32 × Int64 × Int32 × Int32 × Int32) => f12_years_B84 (nn m) (nn n) pp sign clause clauses force (nn (nfF (gR S) P)) (ov 62 S kept) z.1 z.2.1 z.2.2.1 z.2.2.2.1 z.2.2.2.2.1 z.2.2.2.2.2.1 z.2.2.2.2.2.2.1 z.2.2.2.2.2.2.2.1 z.2.2.2.2.2.2.2.2.1 z.2.2.2.2.2.2.2.2.2.1 z.2.2.2.2.2.2.2.2.2.2)) (s := ((0 : Int32), (0 : Int32), (nn d0), hb, wl, de, th, tb, tr, tg, tw, ts, tk, (0 : Int32))) (t := (st, tp, wd, S, wil, mov, bk, lN d0, (0 : Int32), (0 : Int32), (0 : Int32))) (n := m)
    (I := fun n9 a b => ∃ k d, n9 + k = m ∧ a.2.2.2.2.2.2.2.2.2.2.2.2.2 = nn k ∧ b.2.2.2.2.2.2.2.2.2.2 = nn k ∧ a.2.2.1 = nn d ∧ b.2.2.2.2.2.2.2.1 = lN d ∧ d < 2147483648 ∧ a.1 = b.2.2.2.2.2.2.2.2.1 ∧ a.2.1 = b.2.2.2.2.2.2.2.2.2.1 ∧ b.2.2.2.1 = S)
    (Po := fun a b => a.1 = b.2.2.2.2.2.2.2.2.1 ∧ a.2.1 = b.2.2.2.2.2.2.2.2.2 ∧ b.2.2.2.1 = S)
    ⟨0, d0, rfl, rfl, rfl, rfl, rfl, hd, rfl, rfl, rfl⟩ (by omega)
    (by
      rintro n9 ⟨w7, w8, w9, x0, x1, x2, t0, t1, t2, t3, t4, t5, t6, i⟩ ⟨y0, y1, y2, T, y3, y4, y5, dx, sx, fx, j⟩ ⟨k, d, hk, rfl, rfl, rfl, rfl, hd, rfl, rfl, hTS⟩
      dsimp only at hTS ⊢
      subst hTS
      unfold f3_blow_n_B33 f12_years_B84
      by_cases hkn : m ≤ k
      · right
        rw [if_pos (nleT (by omega) (by omega) hkn), if_pos (nleT (by omega) (by omega) hkn)]
        exact ⟨_, _, rfl, rfl, rfl, rfl, rfl⟩
      · left
        obtain ⟨u0, u1, u2, u3, u4, u5, u6, u7, u8, u9, u10, v0, v1, v2, U, v4, v5, v6, v7, d', f1, f2, h1, h2, h3, hWl, hIl, hStl⟩ := r_blow53_n (n := n) (ws0 := w7) (pp := pp) (hb := x0) (wl := x1) (de := x2)  (st := y0) (tp := y1) (wd := y2) (wil := y3) (mov := y4) (bk := y5) (sign := sign) (clause := clause) (clauses := clauses) hn hd hI (hW.copy (r0 := t2) (g0 := t3) (w0 := t4) (s0 := t5) (k0 := t6)) hL hf
        subst h1 h2
        obtain ⟨wl2, g3, g4⟩ := c_left hIl hWl
        have hfd := ((fall_diff P hP4 (nfF (gR T) P) (Nat.lt_of_le_of_lt (nfF_le _ _) hP4) (nfF (gR U) P) (Nat.lt_of_le_of_lt (nfF_le _ _) hP4)).resolve_left (Nat.not_lt.mpr (nfF_le _ _))).resolve_left (Nat.not_lt.mpr (nfF_le _ _))
        rw [hL.2.1] at f1
        rw [if_neg (nle (by omega) (by omega) hkn), if_neg (nle (by omega) (by omega) hkn), c_copyFrom, bnd7_s, f1, bnd11_s, f2, bnd9_s, g3, bnd1_s, g4, bnd1_s, m_fallen hIl.1.2.2.2.1 hP4, bnd1_s, hfd, hStl.back]
        simp only [lt_df, bnd1_s, nn_succ]
        exact ⟨_, _, n9 - 1, rfl, rfl, by omega, k + 1, d', by omega, rfl, rfl, rfl, rfl, h3, rfl, rfl, rfl⟩)
  obtain ⟨⟨w7, w8, w9, x0, x1, x2, t0, t1, t2, t3, t4, t5, t6⟩, ⟨y0, y1, y2, T, y3, y4, y5, dx, sx, fx⟩, e1, e2, h1, h2, h3⟩ := key
  dsimp only at h1 h2 h3
  subst h1 h2 h3
  rw [e1, bnd13_s]
  exact ⟨_, _, _, _, _, _, _, _, _, _, _, _, _, _, _, _, _, _, _, _,  rfl, e2⟩
theorem r_blow53 {n d0 : Nat} {ws0 : Int32} (hn : n < 1000) (hd : d0 < 2147483648) (hI : IV R P S) (hW : RWd S th tb tr tg tw ts tk) (hL : RLd R P S rungs people room strength weight told) (hf : ¬ force < 0) (hE : REv nc code ns sumEnd nt testEnd sign clause clauses force) : ∃ ws1 wx1 hb1 wl1 de1 wo1 h1 b1 rg1 gr1 sl1 wn1 sk1 tq1 st1 tp1 wd1 S1 wi1 mo1 bk1 dx1 d1, iter (fun (z : Int32 × Int32 × Int32 × (Nat → Int32) × (Nat → Int32) × (Nat → Int64) × Int32 × Int32 × (Nat → Int32) × (Nat → Int32) × (Nat → Int32) × (Nat → Int32) × (Nat → Int64) × Int32 × Int32) => f3_blow_B53 (nn n) people pp tw rungs room strength weight told nc code ns sumEnd nt testEnd z.1 z.2.1 z.2.2.1 z.2.2.2.1 z.2.2.2.2.1 z.2.2.2.2.2.1 z.2.2.2.2.2.2.1 z.2.2.2.2.2.2.2.1 z.2.2.2.2.2.2.2.2.1 z.2.2.2.2.2.2.2.2.2.1 z.2.2.2.2.2.2.2.2.2.2.1 z.2.2.2.2.2.2.2.2.2.2.2.1 z.2.2.2.2.2.2.2.2.2.2.2.2.1 z.2.2.2.2.2.2.2.2.2.2.2.2.2.1 z.2.2.2.2.2.2.2.2.2.2.2.2.2.2) FUEL (ws0, nn d0, hb, wl, de, wo, th, tb, tr, tg, ts, tk, stack, top, (0 : Int32)) = some (ws1, wx1, hb1, wl1, de1, wo1, h1, b1, rg1, gr1, sl1, wn1, sk1, tq1) ∧ iter (fun (z : (Nat → Int64) × Int32 × (Nat → Int64) × (Nat → Int32) × (Nat → Int32) × (Nat → Int32) × Int32 × Int64 × Int32 × Int32) => f12_years_B93 (nn n) pp sign clause clauses force z.1 z.2.1 z.2.2.1 z.2.2.2.1 z.2.2.2.2.1 z.2.2.2.2.2.1 z.2.2.2.2.2.2.1 z.2.2.2.2.2.2.2.1 z.2.2.2.2.2.2.2.2.1 z.2.2.2.2.2.2.2.2.2) FUEL (st, tp, wd, S, wil, mov, bk, lN d0, ws0, (0 : Int32)) = some (st1, tp1, wd1, S1, wi1, mo1, bk1, dx1, ws1) ∧ wx1 = nn d1 ∧ dx1 = lN d1 ∧ d1 < 2147483648 ∧ RWd S1 h1 b1 rg1 gr1 tw sl1 wn1 ∧ IV R P S1 ∧ St S S1 := by
  have hR9 := hI.1.1
  have key := iter_twoF (B := (fun (z : Int32 × Int32 × Int32 × (Nat → Int32) × (Nat → Int32) × (Nat → Int64) × Int32 × Int32 × (Nat → Int32) × (Nat → Int32) × (Nat → Int32) × (Nat → Int32) × (Nat → Int64) × Int32 × Int32) => f3_blow_B53 (nn n) people pp tw rungs room strength weight told nc code ns sumEnd nt testEnd z.1 z.2.1 z.2.2.1 z.2.2.2.1 z.2.2.2.2.1 z.2.2.2.2.2.1 z.2.2.2.2.2.2.1 z.2.2.2.2.2.2.2.1 z.2.2.2.2.2.2.2.2.1 z.2.2.2.2.2.2.2.2.2.1 z.2.2.2.2.2.2.2.2.2.2.1 z.2.2.2.2.2.2.2.2.2.2.2.1 z.2.2.2.2.2.2.2.2.2.2.2.2.1 z.2.2.2.2.2.2.2.2.2.2.2.2.2.1 z.2.2.2.2.2.2.2.2.2.2.2.2.2.2)) (C := (fun (z : (Nat → Int64) × Int32 × (Nat → Int64) × (Nat → Int32) × (Nat → Int32) × (Nat → Int32) × Int32 × Int64 × Int32 × Int32) => f12_years_B93 (nn n) pp sign clause clauses force z.1 z.2.1 z.2.2.1 z.2.2.2.1 z.2.2.2.2.1 z.2.2.2.2.2.1 z.2.2.2.2.2.2.1 z.2.2.2.2.2.2.2.1 z.2.2.2.2.2.2.2.2.1 z.2.2.2.2.2.2.2.2.2)) (s := (ws0, nn d0, hb, wl, de, wo, th, tb, tr, tg, ts, tk, stack, top, (0 : Int32))) (t := (st, tp, wd, S, wil, mov, bk, lN d0, ws0, (0 : Int32))) (n := n)
    (I := fun n9 a b => ∃ k d, n9 + k = n ∧ a.2.2.2.2.2.2.2.2.2.2.2.2.2.2 = nn k ∧ b.2.2.2.2.2.2.2.2.2 = nn k ∧ a.2.1 = nn d ∧ b.2.2.2.2.2.2.2.1 = lN d ∧ d < 2147483648 ∧ a.1 = b.2.2.2.2.2.2.2.2.1 ∧ RWd b.2.2.2.1 a.2.2.2.2.2.2.1 a.2.2.2.2.2.2.2.1 a.2.2.2.2.2.2.2.2.1 a.2.2.2.2.2.2.2.2.2.1 tw a.2.2.2.2.2.2.2.2.2.2.1 a.2.2.2.2.2.2.2.2.2.2.2.1 ∧ IV R P b.2.2.2.1 ∧ St S b.2.2.2.1)
    (Po := fun a b => ∃ d, a.2.1 = nn d ∧ b.2.2.2.2.2.2.2.1 = lN d ∧ d < 2147483648 ∧ a.1 = b.2.2.2.2.2.2.2.2 ∧ RWd b.2.2.2.1 a.2.2.2.2.2.2.1 a.2.2.2.2.2.2.2.1 a.2.2.2.2.2.2.2.2.1 a.2.2.2.2.2.2.2.2.2.1 tw a.2.2.2.2.2.2.2.2.2.2.1 a.2.2.2.2.2.2.2.2.2.2.2.1 ∧ IV R P b.2.2.2.1 ∧ St S b.2.2.2.1)
    ⟨0, d0, rfl, rfl, rfl, rfl, rfl, hd, rfl, hW, hI, St.rf⟩ (by omega)
    (by
      rintro n9 ⟨w8, w9, x0, x1, x2, x3, hh, bb, rr, gg, ss, ww, xs, xt, i⟩ ⟨y0, y1, y2, T, y3, y4, y5, dx, sx, j⟩ ⟨k, d, hk, rfl, rfl, rfl, rfl, hd, rfl, hWk, hIk, hSt⟩
      dsimp only at hWk hIk hSt ⊢
      unfold f3_blow_B53 f12_years_B93
      by_cases hkn : n ≤ k
      · right
        rw [if_pos (nleT (by omega) (by omega) hkn), if_pos (nleT (by omega) (by omega) hkn)]
        exact ⟨_, _, rfl, rfl, d, rfl, rfl, hd, rfl, hWk, hIk, hSt⟩
      · left
        obtain ⟨d', gr', U, f1, f2, hd', hWl, hIl, hStl⟩ := r_loosen (pp := pp) hd hIk hWk
        obtain ⟨v2, br2, wl2, de2, wo2, b2, rg2, gr2, sl2, wn2, sk2, tq2, st2, tp2, wd2, T2, wi2, mo2, e1, e2, hW2, hI2, hSt2, hbr2⟩ := r_spend  (hb0 := x0) (bk0 := y5) (tp := y1) (will0 := x1) (deed0 := x2) (wil0 := y3) (moved0 := y4) (st := y0) (wd := y2) (words := x3) (stack := xs) (top := xt) hIl hWl (hL.st (hSt.tr hStl) hR9) hf hE
        rw [if_neg (nle (by omega) (by omega) hkn), if_neg (nle (by omega) (by omega) hkn), hL.2.1, f1, f2, bnd2_s, bnd2_s]
        rw [hL.2.1] at e1
        rw [e1, bnd13_s, e2, bnd8_s]
        simp only [lt_df, nn_succ]
        refine ⟨_, _, n9 - 1, rfl, rfl, by omega, k + 1, d', by omega, rfl, rfl, rfl, rfl, hd', rfl, hW2, hI2, (hSt.tr hStl).tr hSt2⟩)
  obtain ⟨⟨w8, w9, x0, x1, x2, x3, hh, bb, rr, gg, ss, ww, xs, xt⟩, ⟨y0, y1, y2, T, y3, y4, y5, dx, sx⟩, e1, e2, d, h1, h2, h3, h4, h5, h6, h7⟩ := key
  dsimp only at h4
  subst h4
  exact ⟨_, _, _, _, _, _, _, _, _, _, _, _, _, _, _, _, _, _, _, _, _, _,  d, e1, e2, h1, h2, h3, h5, h6, h7⟩
theorem r_blow {m n d0 : Nat} {ws0 wf0 wx0 : Int32} (hm : m < 1000) (hn : n < 1000) (hd : d0 < 2147483648) (hI : IV R P S) (hW : RWd S hour broken rung grip want slips worn) (hL : RLd R P S rungs people room strength weight told) (hf : ¬ force < 0) (hE : REv nc code ns sumEnd nt testEnd sign clause clauses force) : ∃ ws1 wf1 wx1 hb1 wl1 de1 wo1 h1 b1 rg1 gr1 wt1 sl1 wn1 sk1 tq1 st1 tp1 wd1 wi1 mo1 bk1 dx1, f3_blow ws0 wf0 wx0 hb wl de wo th tb tr tg tw ts tk (nn d0) hour broken rung grip want slips worn rungs people room strength weight told nc code ns sumEnd nt testEnd stack top (nn m) (nn n) pp = some (ws1, wf1, wx1, hb1, wl1, de1, wo1, h1, b1, rg1, gr1, wt1, sl1, wn1, sk1, tq1) ∧ iter (fun (z : (Nat → Int64) × Int32 × (Nat → Int64) × (Nat → Int32) × (Nat → Int32) × (Nat → Int32) × Int32 × Int64 × Int32 × Int32 × Int32) => f12_years_B84 (nn m) (nn n) pp sign clause clauses force (nn (nfF (gR S) P)) (ov 62 S kept) z.1 z.2.1 z.2.2.1 z.2.2.2.1 z.2.2.2.2.1 z.2.2.2.2.2.1 z.2.2.2.2.2.2.1 z.2.2.2.2.2.2.2.1 z.2.2.2.2.2.2.2.2.1 z.2.2.2.2.2.2.2.2.2.1 z.2.2.2.2.2.2.2.2.2.2) FUEL (st, tp, wd, S, wil, mov, bk, lN d0, (0 : Int32), (0 : Int32), (0 : Int32)) = some (st1, tp1, wd1, S, wi1, mo1, bk1, dx1, ws1, wf1) := by
  have hR9 := hI.1.1
  have hP4 := hI.1.2.1
  unfold f3_blow
  obtain ⟨wl0, g1, g2⟩ := c_left hI hW
  rw [hL.2.1, g1, bnd1_s, g2, bnd1_s]
  have key := iter_twoF (B := (fun (z : Int32 × Int32 × Int32 × Int32 × (Nat → Int32) × (Nat → Int32) × (Nat → Int64) × Int32 × Int32 × (Nat → Int32) × (Nat → Int32) × (Nat → Int32) × (Nat → Int32) × (Nat → Int32) × (Nat → Int64) × Int32 × Int32) => f3_blow_B33 (nn m) hour broken rung grip want slips worn (nn n) (nn P) pp rungs room strength weight told nc code ns sumEnd nt testEnd (nn (P - nfF (gR S) P)) z.1 z.2.1 z.2.2.1 z.2.2.2.1 z.2.2.2.2.1 z.2.2.2.2.2.1 z.2.2.2.2.2.2.1 z.2.2.2.2.2.2.2.1 z.2.2.2.2.2.2.2.2.1 z.2.2.2.2.2.2.2.2.2.1 z.2.2.2.2.2.2.2.2.2.2.1 z.2.2.2.2.2.2.2.2.2.2.2.1 z.2.2.2.2.2.2.2.2.2.2.2.2.1 z.2.2.2.2.2.2.2.2.2.2.2.2.2.1 z.2.2.2.2.2.2.2.2.2.2.2.2.2.2.1 z.2.2.2.2.2.2.2.2.2.2.2.2.2.2.2.1 z.2.2.2.2.2.2.2.2.2.2.2.2.2.2.2.2)) (C := (fun (z : (Nat → Int64) × Int32 × (Nat → Int64) × (Nat → Int32) × (Nat → Int32) × (Nat → Int32) × Int32 × Int64 × Int32 × Int32 × Int32) => f12_years_B84 (nn m) (nn n) pp sign clause clauses force (nn (nfF (gR S) P)) (ov 62 S kept) z.1 z.2.1 z.2.2.1 z.2.2.2.1 z.2.2.2.2.1 z.2.2.2.2.2.1 z.2.2.2.2.2.2.1 z.2.2.2.2.2.2.2.1 z.2.2.2.2.2.2.2.2.1 z.2.2.2.2.2.2.2.2.2.1 z.2.2.2.2.2.2.2.2.2.2)) (s := ((0 : Int32), (0 : Int32), (nn d0), hb, wl, de, wo, th, tb, tr, tg, tw, ts, tk, stack, top, (0 : Int32))) (t := (st, tp, wd, S, wil, mov, bk, lN d0, (0 : Int32), (0 : Int32), (0 : Int32))) (n := m)
    (I := fun n9 a b => ∃ k d, n9 + k = m ∧ a.2.2.2.2.2.2.2.2.2.2.2.2.2.2.2.2 = nn k ∧ b.2.2.2.2.2.2.2.2.2.2 = nn k ∧ a.2.2.1 = nn d ∧ b.2.2.2.2.2.2.2.1 = lN d ∧ d < 2147483648 ∧ a.1 = b.2.2.2.2.2.2.2.2.1 ∧ a.2.1 = b.2.2.2.2.2.2.2.2.2.1 ∧ b.2.2.2.1 = S)
    (Po := fun a b => a.1 = b.2.2.2.2.2.2.2.2.1 ∧ a.2.1 = b.2.2.2.2.2.2.2.2.2 ∧ b.2.2.2.1 = S)
    ⟨0, d0, rfl, rfl, rfl, rfl, rfl, hd, rfl, rfl, rfl⟩ (by omega)
    (by
      rintro n9 ⟨w7, w8, w9, x0, x1, x2, x3, t0, t1, t2, t3, t4, t5, t6, xs, xt, i⟩ ⟨y0, y1, y2, T, y3, y4, y5, dx, sx, fx, j⟩ ⟨k, d, hk, rfl, rfl, rfl, rfl, hd, rfl, rfl, hTS⟩
      dsimp only at hTS ⊢
      subst hTS
      unfold f3_blow_B33 f12_years_B84
      by_cases hkn : m ≤ k
      · right
        rw [if_pos (nleT (by omega) (by omega) hkn), if_pos (nleT (by omega) (by omega) hkn)]
        exact ⟨_, _, rfl, rfl, rfl, rfl, rfl⟩
      · left
        obtain ⟨u0, u1, u2, u3, u4, u5, u6, u7, u8, u9, u10, u11, u12, u13, v0, v1, v2, U, v4, v5, v6, v7, d', f1, f2, h1, h2, h3, hWl, hIl, hStl⟩ := r_blow53 (n := n) (ws0 := w7) (pp := pp) (hb := x0) (wl := x1) (de := x2) (wo := x3) (stack := xs) (top := xt) (st := y0) (tp := y1) (wd := y2) (wil := y3) (mov := y4) (bk := y5)  hn hd hI (hW.copy (r0 := t2) (g0 := t3) (w0 := t4) (s0 := t5) (k0 := t6)) hL hf hE
        subst h1 h2
        obtain ⟨wl2, g3, g4⟩ := c_left hIl hWl
        have hfd := ((fall_diff P hP4 (nfF (gR T) P) (Nat.lt_of_le_of_lt (nfF_le _ _) hP4) (nfF (gR U) P) (Nat.lt_of_le_of_lt (nfF_le _ _) hP4)).resolve_left (Nat.not_lt.mpr (nfF_le _ _))).resolve_left (Nat.not_lt.mpr (nfF_le _ _))
        rw [hL.2.1] at f1
        rw [if_neg (nle (by omega) (by omega) hkn), if_neg (nle (by omega) (by omega) hkn), c_copyFrom, bnd7_s, f1, bnd14_s, f2, bnd9_s, g3, bnd1_s, g4, bnd1_s, m_fallen hIl.1.2.2.2.1 hP4, bnd1_s, hfd, hStl.back]
        simp only [lt_df, bnd1_s, nn_succ]
        exact ⟨_, _, n9 - 1, rfl, rfl, by omega, k + 1, d', by omega, rfl, rfl, rfl, rfl, h3, rfl, rfl, rfl⟩)
  obtain ⟨⟨w7, w8, w9, x0, x1, x2, x3, t0, t1, t2, t3, t4, t5, t6, xs, xt⟩, ⟨y0, y1, y2, T, y3, y4, y5, dx, sx, fx⟩, e1, e2, h1, h2, h3⟩ := key
  dsimp only at h1 h2 h3
  subst h1 h2 h3
  rw [e1, bnd16_s]
  exact ⟨_, _, _, _, _, _, _, _, _, _, _, _, _, _, _, _, _, _, _, _, _, _, _,  rfl, e2⟩
end
