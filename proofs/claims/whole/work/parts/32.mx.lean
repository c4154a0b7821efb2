section
variable {S : Nat → Int32} {R P : Nat} {hour broken rungs people : Int32} {rung grip want slips worn room strength weight told : Nat → Int32}
variable {hb th tb o_brokenRung o_brokenHour o_mendedRung o_mendedHour : Int32} {wl de tr tg tw ts tk : Nat → Int32} {wo : Nat → Int64}
variable {nc ns nt : Nat} {code sumEnd testEnd : Nat → Int32} {stack : Nat → Int64} {top : Int32}
variable {sign clause clauses : Nat → Int32} {force : Int32} {st wd : Nat → Int64} {tp bk bh : Int32} {wil mov : Nat → Int32}

theorem r_fore21_n {h0 : Nat} (hth : th = nn h0) (hh5 : h0 < 5000) (hI : IV R P S) (hW : RWd S th tb tr tg tw ts tk) (hL : RLd R P S rungs people room strength weight told) (hf : force < 0) : ∃ ret br1 bh1 hb1 wl1 de1 h1 b1 rg1 gr1 wt1 sl1 wn1 v st1 tp1 wd1 S1 wi1 mo1 bk1 bq1, f3_foreseesBreak_n_J21 rungs people room strength weight told o_brokenRung o_brokenHour hb wl de th tb tr tg tw ts tk = some (ret, br1, bh1, hb1, wl1, de1, h1, b1, rg1, gr1, wt1, sl1, wn1) ∧ f12_firstBreak sign clause clauses st tp wd S force wil mov bk bh = some (v, st1, tp1, wd1, S1, wi1, mo1, bk1, bq1) ∧ St S S1 ∧ ((ret = 0 ∧ v = -1) ∨ (ret = 1 ∧ ∃ r h, r < R ∧ br1 = nn r ∧ v = nn r ∧ bq1 = nn h ∧ bh1 = nn h ∧ h0 ≤ h ∧ h < h0 + 200)) := by
  have hR9 := hI.1.1
  unfold f3_foreseesBreak_n_J21 f12_firstBreak
  have key := iter_twoF (B := (fun (z : Int32 × Int32 × Int32 × (Nat → Int32) × (Nat → Int32) × Int32 × Int32 × (Nat → Int32) × (Nat → Int32) × (Nat → Int32) × (Nat → Int32) × Int32) => f3_foreseesBreak_n_B24 tw rungs people room strength weight told z.1 z.2.1 z.2.2.1 z.2.2.2.1 z.2.2.2.2.1 z.2.2.2.2.2.1 z.2.2.2.2.2.2.1 z.2.2.2.2.2.2.2.1 z.2.2.2.2.2.2.2.2.1 z.2.2.2.2.2.2.2.2.2.1 z.2.2.2.2.2.2.2.2.2.2.1 z.2.2.2.2.2.2.2.2.2.2.2)) (C := (fun (z : (Nat → Int64) × Int32 × (Nat → Int64) × (Nat → Int32) × (Nat → Int32) × (Nat → Int32) × Int32 × Int32 × Int32) => f12_firstBreak_B2 sign clause clauses force z.1 z.2.1 z.2.2.1 z.2.2.2.1 z.2.2.2.2.1 z.2.2.2.2.2.1 z.2.2.2.2.2.2.1 z.2.2.2.2.2.2.2.1 z.2.2.2.2.2.2.2.2)) (s := (o_brokenRung, o_brokenHour, hb, wl, de, th, tb, tr, tg, ts, tk, (0 : Int32))) (t := (st, tp, wd, S, wil, mov, bk, bh, (0 : Int32))) (n := 200)
    (I := fun n9 a b => ∃ k, n9 + k = 200 ∧ a.2.2.2.2.2.2.2.2.2.2.2 = nn k ∧ b.2.2.2.2.2.2.2.2 = nn k ∧ a.2.2.2.2.2.1 = nn (h0 + k) ∧ RWd b.2.2.2.1 a.2.2.2.2.2.1 a.2.2.2.2.2.2.1 a.2.2.2.2.2.2.2.1 a.2.2.2.2.2.2.2.2.1 tw a.2.2.2.2.2.2.2.2.2.1 a.2.2.2.2.2.2.2.2.2.2.1 ∧ IV R P b.2.2.2.1 ∧ St S b.2.2.2.1)
    (Po := fun a b => (∃ x y, a = .inr x ∧ b = .inr y ∧ St S y.2.2.2.1) ∨ (∃ x y, a = .inl x ∧ b = .inl y ∧ x.1 = 1 ∧ St S y.2.2.2.2.1 ∧ ∃ r h, r < R ∧ x.2.1 = nn r ∧ y.1 = nn r ∧ y.2.2.2.2.2.2.2.2 = nn h ∧ x.2.2.1 = nn h ∧ h0 ≤ h ∧ h < h0 + 200))
    ⟨0, rfl, rfl, rfl, hth, hW, hI, St.rf⟩ (by omega)
    (by
      rintro n9 ⟨x8, x9, x0, x1, x2, hh, bb, rr, gg, ss, ww, i⟩ ⟨y0, y1, y2, T, y3, y4, y5, y6, j⟩ ⟨k, hk, rfl, rfl, hhe, hWk, hIk, hSt⟩
      dsimp only at hhe hWk hIk hSt ⊢
      subst hhe
      unfold f3_foreseesBreak_n_B24 f12_firstBreak_B2
      rw [show (200 : Int32) = nn 200 from rfl]
      by_cases hkn : 200 ≤ k
      · right
        rw [if_pos (nleT (by omega) (by omega) hkn), if_pos (nleT (by omega) (by omega) hkn)]
        exact ⟨_, _, rfl, rfl, Or.inl ⟨_, _, rfl, rfl, hSt⟩⟩
      · obtain ⟨v2, br2, wl2, de2, b2, rg2, gr2, sl2, wn2, T2, wi2, mo2, e1, e2, hW2, hI2, hSt2, hbr2⟩ := r_spend_n (sign := sign) (clause := clause) (clauses := clauses) (hb0 := x0) (bk0 := y5) (tp := y1) (will0 := x1) (deed0 := x2) (wil0 := y3) (moved0 := y4) (st := y0) (wd := y2) hIk hWk (hL.st hSt hR9) hf
        rw [if_neg (nle (by omega) (by omega) hkn), if_neg (nle (by omega) (by omega) hkn), e1, bnd10_s, e2, bnd8_s]
        rcases hbr2 with rfl | ⟨r, hr, rfl⟩
        · left
          rw [if_pos rfl, if_neg (show ¬ (0 : Int32) ≤ -1 by decide), lt_df, lt_df]
          simp only [nn_succ] at hW2 ⊢
          exact ⟨_, _, n9 - 1, rfl, rfl, by omega, k + 1, by omega, rfl, rfl, rfl, hW2, hI2, hSt.tr hSt2⟩
        · right
          rw [if_neg (nn_ne_m1 (by omega)), if_pos (n0le (by omega)), lt_df]
          exact ⟨_, _, rfl, rfl, Or.inr ⟨_, _, rfl, rfl, rfl, hSt.tr hSt2, r, h0 + k, hr, rfl, rfl, by dsimp only; rw [← hW2.1, nn_succ, nn_pred'], rfl, by omega, by omega⟩⟩)
  obtain ⟨a, b, e1, e2, h⟩ := key
  rw [e1, e2]
  rcases h with ⟨⟨u0, u1, u2, u3, u4, u5, u6, u7, u8, u9, u10⟩, ⟨w0, w1, w2, w3, w4, w5, w6, w7⟩, rfl, rfl, hs⟩ | ⟨⟨u0, u1, u2, u3, u4, u5, u6, u7, u8, u9, u10, u11, u12⟩, ⟨w0, w1, w2, w3, w4, w5, w6, w7, w8⟩, rfl, rfl, h1, hs, h2⟩
  · rw [bndS11_r, bndS8_r]
    exact ⟨_, _, _, _, _, _, _, _, _, _, _, _, _, _, _, _, _, _, _, _, _, _,  rfl, rfl, hs, Or.inl ⟨rfl, rfl⟩⟩
  · rw [bndS11_l, bndS8_l]
    exact ⟨_, _, _, _, _, _, _, _, _, _, _, _, _, _, _, _, _, _, _, _, _, _,  rfl, rfl, hs, Or.inr ⟨h1, h2⟩⟩
theorem r_fore21 {h0 : Nat} (hth : th = nn h0) (hh5 : h0 < 5000) (hI : IV R P S) (hW : RWd S th tb tr tg tw ts tk) (hL : RLd R P S rungs people room strength weight told) (hf : ¬ force < 0) (hE : REv nc code ns sumEnd nt testEnd sign clause clauses force) : ∃ ret br1 bh1 hb1 wl1 de1 wo1 h1 b1 rg1 gr1 wt1 sl1 wn1 sk1 tq1 v st1 tp1 wd1 S1 wi1 mo1 bk1 bq1, f3_foreseesBreak_J21 rungs people room strength weight told nc code ns sumEnd nt testEnd o_brokenRung o_brokenHour hb wl de wo th tb tr tg tw ts tk stack top = some (ret, br1, bh1, hb1, wl1, de1, wo1, h1, b1, rg1, gr1, wt1, sl1, wn1, sk1, tq1) ∧ f12_firstBreak sign clause clauses st tp wd S force wil mov bk bh = some (v, st1, tp1, wd1, S1, wi1, mo1, bk1, bq1) ∧ St S S1 ∧ ((ret = 0 ∧ v = -1) ∨ (ret = 1 ∧ ∃ r h, r < R ∧ br1 = nn r ∧ v = nn r ∧ bq1 = nn h ∧ bh1 = nn h ∧ h0 ≤ h ∧ h < h0 + 200)) := by
  have hR9 := hI.1.1
  unfold f3_foreseesBreak_J21 f12_firstBreak
  have key := iter_twoF (B := (fun (z : Int32 × Int32 × Int32 × (Nat → Int32) × (Nat → Int32) × (Nat → Int64) × Int32 × Int32 × (Nat → Int32) × (Nat → Int32) × (Nat → Int32) × (Nat → Int32) × (Nat → Int64) × Int32 × Int32) => f3_foreseesBreak_B24 tw rungs people room strength weight told nc code ns sumEnd nt testEnd z.1 z.2.1 z.2.2.1 z.2.2.2.1 z.2.2.2.2.1 z.2.2.2.2.2.1 z.2.2.2.2.2.2.1 z.2.2.2.2.2.2.2.1 z.2.2.2.2.2.2.2.2.1 z.2.2.2.2.2.2.2.2.2.1 z.2.2.2.2.2.2.2.2.2.2.1 z.2.2.2.2.2.2.2.2.2.2.2.1 z.2.2.2.2.2.2.2.2.2.2.2.2.1 z.2.2.2.2.2.2.2.2.2.2.2.2.2.1 z.2.2.2.2.2.2.2.2.2.2.2.2.2.2)) (C := (fun (z : (Nat → Int64) × Int32 × (Nat → Int64) × (Nat → Int32) × (Nat → Int32) × (Nat → Int32) × Int32 × Int32 × Int32) => f12_firstBreak_B2 sign clause clauses force z.1 z.2.1 z.2.2.1 z.2.2.2.1 z.2.2.2.2.1 z.2.2.2.2.2.1 z.2.2.2.2.2.2.1 z.2.2.2.2.2.2.2.1 z.2.2.2.2.2.2.2.2)) (s := (o_brokenRung, o_brokenHour, hb, wl, de, wo, th, tb, tr, tg, ts, tk, stack, top, (0 : Int32))) (t := (st, tp, wd, S, wil, mov, bk, bh, (0 : Int32))) (n := 200)
    (I := fun n9 a b => ∃ k, n9 + k = 200 ∧ a.2.2.2.2.2.2.2.2.2.2.2.2.2.2 = nn k ∧ b.2.2.2.2.2.2.2.2 = nn k ∧ a.2.2.2.2.2.2.1 = nn (h0 + k) ∧ RWd b.2.2.2.1 a.2.2.2.2.2.2.1 a.2.2.2.2.2.2.2.1 a.2.2.2.2.2.2.2.2.1 a.2.2.2.2.2.2.2.2.2.1 tw a.2.2.2.2.2.2.2.2.2.2.1 a.2.2.2.2.2.2.2.2.2.2.2.1 ∧ IV R P b.2.2.2.1 ∧ St S b.2.2.2.1)
    (Po := fun a b => (∃ x y, a = .inr x ∧ b = .inr y ∧ St S y.2.2.2.1) ∨ (∃ x y, a = .inl x ∧ b = .inl y ∧ x.1 = 1 ∧ St S y.2.2.2.2.1 ∧ ∃ r h, r < R ∧ x.2.1 = nn r ∧ y.1 = nn r ∧ y.2.2.2.2.2.2.2.2 = nn h ∧ x.2.2.1 = nn h ∧ h0 ≤ h ∧ h < h0 + 200))
    ⟨0, rfl, rfl, rfl, hth, hW, hI, St.rf⟩ (by omega)
    (by
      rintro n9 ⟨x8, x9, x0, x1, x2, x3, hh, bb, rr, gg, ss, ww, xs, xt, i⟩ ⟨y0, y1, y2, T, y3, y4, y5, y6, j⟩ ⟨k, hk, rfl, rfl, hhe, hWk, hIk, hSt⟩
      dsimp only at hhe hWk hIk hSt ⊢
      subst hhe
      unfold f3_foreseesBreak_B24 f12_firstBreak_B2
      rw [show (200 : Int32) = nn 200 from rfl]
      by_cases hkn : 200 ≤ k
      · right
        rw [if_pos (nleT (by omega) (by omega) hkn), if_pos (nleT (by omega) (by omega) hkn)]
        exact ⟨_, _, rfl, rfl, Or.inl ⟨_, _, rfl, rfl, hSt⟩⟩
      · obtain ⟨v2, br2, wl2, de2, wo2, b2, rg2, gr2, sl2, wn2, sk2, tq2, st2, tp2, wd2, T2, wi2, mo2, e1, e2, hW2, hI2, hSt2, hbr2⟩ := r_spend  (hb0 := x0) (bk0 := y5) (tp := y1) (will0 := x1) (deed0 := x2) (wil0 := y3) (moved0 := y4) (st := y0) (wd := y2) (words := x3) (stack := xs) (top := xt) hIk hWk (hL.st hSt hR9) hf hE
        rw [if_neg (nle (by omega) (by omega) hkn), if_neg (nle (by omega) (by omega) hkn), e1, bnd13_s, e2, bnd8_s]
        rcases hbr2 with rfl | ⟨r, hr, rfl⟩
        · left
          rw [if_pos rfl, if_neg (show ¬ (0 : Int32) ≤ -1 by decide), lt_df, lt_df]
          simp only [nn_succ] at hW2 ⊢
          exact ⟨_, _, n9 - 1, rfl, rfl, by omega, k + 1, by omega, rfl, rfl, rfl, hW2, hI2, hSt.tr hSt2⟩
        · right
          rw [if_neg (nn_ne_m1 (by omega)), if_pos (n0le (by omega)), lt_df]
          exact ⟨_, _, rfl, rfl, Or.inr ⟨_, _, rfl, rfl, rfl, hSt.tr hSt2, r, h0 + k, hr, rfl, rfl, by dsimp only; rw [← hW2.1, nn_succ, nn_pred'], rfl, by omega, by omega⟩⟩)
  obtain ⟨a, b, e1, e2, h⟩ := key
  rw [e1, e2]
  rcases h with ⟨⟨u0, u1, u2, u3, u4, u5, u6, u7, u8, u9, u10, u11, u12, u13⟩, ⟨w0, w1, w2, w3, w4, w5, w6, w7⟩, rfl, rfl, hs⟩ | ⟨⟨u0, u1, u2, u3, u4, u5, u6, u7, u8, u9, u10, u11, u12, u13, u14, u15⟩, ⟨w0, w1, w2, w3, w4, w5, w6, w7, w8⟩, rfl, rfl, h1, hs, h2⟩
  · rw [bndS14_r, bndS8_r]
    exact ⟨_, _, _, _, _, _, _, _, _, _, _, _, _, _, _, _, _, _, _, _, _, _, _, _, _,  rfl, rfl, hs, Or.inl ⟨rfl, rfl⟩⟩
  · rw [bndS14_l, bndS8_l]
    exact ⟨_, _, _, _, _, _, _, _, _, _, _, _, _, _, _, _, _, _, _, _, _, _, _, _, _,  rfl, rfl, hs, Or.inr ⟨h1, h2⟩⟩
theorem r_fore_n {h0 : Nat} (hth : hour = nn h0) (hh5 : h0 < 5000) (hI : IV R P S) (hW : RWd S hour broken rung grip want slips worn) (hL : RLd R P S rungs people room strength weight told) (hf : force < 0) : ∃ ret br1 bh1 hb1 wl1 de1 h1 b1 rg1 gr1 wt1 sl1 wn1 v st1 tp1 wd1 S1 wi1 mo1 bk1 bq1, f3_foreseesBreak_n o_brokenRung o_brokenHour hb wl de th tb tr tg tw ts tk hour broken rung grip want slips worn rungs people room strength weight told (-1) = some (ret, br1, bh1, hb1, wl1, de1, h1, b1, rg1, gr1, wt1, sl1, wn1) ∧ f12_firstBreak sign clause clauses st tp wd S force wil mov bk bh = some (v, st1, tp1, wd1, S1, wi1, mo1, bk1, bq1) ∧ St S S1 ∧ ((ret = 0 ∧ v = -1) ∨ (ret = 1 ∧ ∃ r h, r < R ∧ br1 = nn r ∧ v = nn r ∧ bq1 = nn h ∧ bh1 = nn h ∧ h0 ≤ h ∧ h < h0 + 200)) := by
  unfold f3_foreseesBreak_n
  rw [c_copyFrom, bnd7_s, if_pos rfl]
  exact r_fore21_n hth hh5 hI hW.copy hL hf
theorem r_foreM_n {h0 m : Nat} (hm : m < R) (hth : hour = nn h0) (hh5 : h0 < 5000) (hI : IV R P S) (hW : RWd S hour broken rung grip want slips worn) (hL : RLd R P S rungs people room strength weight told) (hf : force < 0) : ∃ ret br1 bh1 hb1 wl1 de1 h1 b1 rg1 gr1 wt1 sl1 wn1 v SM st1 tp1 wd1 S1 wi1 mo1 bk1 bq1, f3_foreseesBreak_n o_brokenRung o_brokenHour hb wl de th tb tr tg tw ts tk hour broken rung grip want slips worn rungs people room strength weight told (nn m) = some (ret, br1, bh1, hb1, wl1, de1, h1, b1, rg1, gr1, wt1, sl1, wn1) ∧ f12_mends S (nn m) = some SM ∧ f12_firstBreak sign clause clauses st tp wd SM force wil mov bk bh = some (v, st1, tp1, wd1, S1, wi1, mo1, bk1, bq1) ∧ St S S1 ∧ ((ret = 0 ∧ v = -1) ∨ (ret = 1 ∧ ∃ r h, r < R ∧ br1 = nn r ∧ v = nn r ∧ bq1 = nn h ∧ bh1 = nn h ∧ h0 ≤ h ∧ h < h0 + 200)) := by
  have hR9 := hI.1.1
  obtain ⟨b2, wn2, SM, e1, e2, hW2, hI2, hSt2, -⟩ := r_repair hI (hW.copy (r0 := tr) (g0 := tg) (w0 := tw) (s0 := ts) (k0 := tk)) hm
  unfold f3_foreseesBreak_n
  rw [c_copyFrom, bnd7_s, if_neg (nn_ne_m1 (by omega)), e1, bnd2_s]
  obtain ⟨u0, u1, u2, u3, u4, u5, u6, u7, u8, u9, u10, u11, u12, w0, w1, w2, w3, w4, w5, w6, w7, w8, f1, f2, hs, h⟩ := r_fore21_n (hb := hb) (wl := wl) (de := de)  (o_brokenRung := o_brokenRung) (o_brokenHour := o_brokenHour) (st := st) (tp := tp) (wd := wd) (wil := wil) (mov := mov) (bk := bk) (bh := bh) (sign := sign) (clause := clause) (clauses := clauses) hth hh5 hI2 hW2 (hL.st hSt2 hR9) hf
  exact ⟨_, _, _, _, _, _, _, _, _, _, _, _, _, _, SM, _, _, _, _, _, _, _, _,  f1, e2, f2, hSt2.tr hs, h⟩
theorem r_fore {h0 : Nat} (hth : hour = nn h0) (hh5 : h0 < 5000) (hI : IV R P S) (hW : RWd S hour broken rung grip want slips worn) (hL : RLd R P S rungs people room strength weight told) (hf : ¬ force < 0) (hE : REv nc code ns sumEnd nt testEnd sign clause clauses force) : ∃ ret br1 bh1 hb1 wl1 de1 wo1 h1 b1 rg1 gr1 wt1 sl1 wn1 sk1 tq1 v st1 tp1 wd1 S1 wi1 mo1 bk1 bq1, f3_foreseesBreak o_brokenRung o_brokenHour hb wl de wo th tb tr tg tw ts tk hour broken rung grip want slips worn rungs people room strength weight told nc code ns sumEnd nt testEnd stack top (-1) = some (ret, br1, bh1, hb1, wl1, de1, wo1, h1, b1, rg1, gr1, wt1, sl1, wn1, sk1, tq1) ∧ f12_firstBreak sign clause clauses st tp wd S force wil mov bk bh = some (v, st1, tp1, wd1, S1, wi1, mo1, bk1, bq1) ∧ St S S1 ∧ ((ret = 0 ∧ v = -1) ∨ (ret = 1 ∧ ∃ r h, r < R ∧ br1 = nn r ∧ v = nn r ∧ bq1 = nn h ∧ bh1 = nn h ∧ h0 ≤ h ∧ h < h0 + 200)) := by
  unfold f3_foreseesBreak
  rw [c_copyFrom, bnd7_s, if_pos rfl]
  exact r_fore21 hth hh5 hI hW.copy hL hf hE
theorem r_foreM {h0 m : Nat} (hm : m < R) (hth : hour = nn h0) (hh5 : h0 < 5000) (hI : IV R P S) (hW : RWd S hour broken rung grip want slips worn) (hL : RLd R P S rungs people room strength weight told) (hf : ¬ force < 0) (hE : REv nc code ns sumEnd nt testEnd sign clause clauses force) : ∃ ret br1 bh1 hb1 wl1 de1 wo1 h1 b1 rg1 gr1 wt1 sl1 wn1 sk1 tq1 v SM st1 tp1 wd1 S1 wi1 mo1 bk1 bq1, f3_foreseesBreak o_brokenRung o_brokenHour hb wl de wo th tb tr tg tw ts tk hour broken rung grip want slips worn rungs people room strength weight told nc code ns sumEnd nt testEnd stack top (nn m) = some (ret, br1, bh1, hb1, wl1, de1, wo1, h1, b1, rg1, gr1, wt1, sl1, wn1, sk1, tq1) ∧ f12_mends S (nn m) = some SM ∧ f12_firstBreak sign clause clauses st tp wd SM force wil mov bk bh = some (v, st1, tp1, wd1, S1, wi1, mo1, bk1, bq1) ∧ St S S1 ∧ ((ret = 0 ∧ v = -1) ∨ (ret = 1 ∧ ∃ r h, r < R ∧ br1 = nn r ∧ v = nn r ∧ bq1 = nn h ∧ bh1 = nn h ∧ h0 ≤ h ∧ h < h0 + 200)) := by
  have hR9 := hI.1.1
  obtain ⟨b2, wn2, SM, e1, e2, hW2, hI2, hSt2, -⟩ := r_repair hI (hW.copy (r0 := tr) (g0 := tg) (w0 := tw) (s0 := ts) (k0 := tk)) hm
  unfold f3_foreseesBreak
  rw [c_copyFrom, bnd7_s, if_neg (nn_ne_m1 (by omega)), e1, bnd2_s]
  obtain ⟨u0, u1, u2, u3, u4, u5, u6, u7, u8, u9, u10, u11, u12, u13, u14, u15, w0, w1, w2, w3, w4, w5, w6, w7, w8, f1, f2, hs, h⟩ := r_fore21 (hb := hb) (wl := wl) (de := de) (wo := wo) (stack := stack) (top := top) (o_brokenRung := o_brokenRung) (o_brokenHour := o_brokenHour) (st := st) (tp := tp) (wd := wd) (wil := wil) (mov := mov) (bk := bk) (bh := bh)  hth hh5 hI2 hW2 (hL.st hSt2 hR9) hf hE
  exact ⟨_, _, _, _, _, _, _, _, _, _, _, _, _, _, _, _, _, SM, _, _, _, _, _, _, _, _,  f1, e2, f2, hSt2.tr hs, h⟩
end
