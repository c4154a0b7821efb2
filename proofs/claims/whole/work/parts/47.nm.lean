/-! which rung breaks first -/
section
variable {S : Nat → Int32} {R P qn qp : Nat} {hour broken rungs people rc fo ob oh hb bk bh tp th tb : Int32} {rung grip want slips worn room strength weight told wl de wil mov sign clause clauses tr tg tw ts tk kept : Nat → Int32} {st wd : Nat → Int64} {rls : Nat → Option Nat}
theorem r_breaks_n (hI : IV R P S) (hW : RWd S hour broken rung grip want slips worn) (hL : RLd R P S rungs people room strength weight told) (hh : ∃ h, h < 1000 ∧ hour = nn h) (hf : fo < 0) (a1 : Int32) : ∃ v ob1 oh1 hb1 wl1 de1 h1 b1 rg1 gr1 wt1 sl1 wn1 q1 st1 tp1 wd1 wi1 mo1 br1 kp1 bh1, f11_breaks_n rls rc fo hour broken rung grip want slips worn rungs people room strength weight told ob oh hb wl de th tb tr tg tw ts tk qp qn a1 = some (v, ob1, oh1, hb1, wl1, de1, h1, b1, rg1, gr1, wt1, sl1, wn1, q1) ∧ f12_breaks sign clause clauses st tp wd S fo wil mov bk kept bh a1 = some (v, st1, tp1, wd1, S, wi1, mo1, br1, kp1, bh1) := by
  have hR9 := hI.1.1
  obtain ⟨h0, hh0, hth⟩ := hh
  have hin : f11_inForce_n rls rc fo = some () := by
    unfold f11_inForce_n f11_inForce_n_J29
    rw [if_pos hf]
  have hno : ∃ v ob1 oh1 hb1 wl1 de1 h1 b1 rg1 gr1 wt1 sl1 wn1 q1 st1 tp1 wd1 wi1 mo1 br1 kp1 bh1, some ((-1 : Int32), ob, oh, hb, wl, de, th, tb, tr, tg, tw, ts, tk, qp) = some (v, ob1, oh1, hb1, wl1, de1, h1, b1, rg1, gr1, wt1, sl1, wn1, q1) ∧ some ((-1 : Int32), st, tp, wd, S, wil, mov, bk, kept, bh) = some (v, st1, tp1, wd1, S, wi1, mo1, br1, kp1, bh1) := ⟨-1, ob, oh, hb, wl, de, th, tb, tr, tg, tw, ts, tk, qp, st, tp, wd, wil, mov, bk, kept, bh, rfl, rfl⟩
  have i2 : f12_in (Int32.toInt64 a1) (0 : Int64) (1 : Int64) = _ := m_in (a := a1) (lo := 0) (hi := 1) (by decide) (by decide)
  unfold f11_breaks_n f12_breaks
  rcases p_has hI with ⟨z0, e1, e2⟩ | ⟨z0, e1, e2⟩
  · rw [hL.1, e1, e2, bnd1_s, bnd1_s, if_pos rfl, if_pos rfl]; exact hno
  · have hk : f11_hasLadder rungs = some 1 := by rw [hL.1]; exact e1
    rw [hk, e2, bnd1_s, bnd1_s, if_neg (show ¬ (1 : Int32) = 0 by decide), if_neg (show ¬ (1 : Int32) = 0 by decide), i2, bnd1_s]
    by_cases c1 : a1 < 0
    · rw [if_pos c1, if_pos (show a1 < nn 0 from c1), if_pos rfl]; exact hno
    · rw [if_neg c1, if_neg (show ¬ a1 < nn 0 from c1)]
      by_cases c4 : a1 ≤ 1
      · obtain ⟨ret, br1, bh1, hb1, wl1, de1, h1, b1, rg1, gr1, wt1, sl1, wn1, v, st1, tp1, wd1, S1, wi1, mo1, bk1, bq1, m1, m2, m3, m4⟩ := r_fore_n (o_brokenRung := ob) (o_brokenHour := oh) (hb := hb) (wl := wl) (de := de) (th := th) (tb := tb) (tr := tr) (tg := tg) (tw := tw) (ts := ts) (tk := tk) (st := st) (tp := tp) (wd := wd) (wil := wil) (mov := mov) (bk := bk) (bh := bh) (sign := sign) (clause := clause) (clauses := clauses) hth (by omega) hI hW hL hf
        have hb : ov 62 (ov 62 S kept) S1 = S := ov_back (fun i hi => m3.2.2.2 i hi)
        rw [if_pos c4, if_neg (show ¬ nn 1 < a1 from Int32.not_lt.mpr c4), if_neg (show ¬ (1 : Int32) = 0 by decide), hin, bnd0_s, m1, bnd13_s, m_keeps, bnd1_s, m2, bnd9_s, m_laysBack, bnd1_s, hb]
        rcases m4 with ⟨rfl, rfl⟩ | ⟨rfl, r, h, hr, rfl, rfl, rfl, rfl, -, -⟩
        · rw [if_pos rfl, if_neg (show ¬ (0 : Int32) ≤ -1 by decide)]
          exact ⟨_, _, _, _, _, _, _, _, _, _, _, _, _, _, _, _, _, _, _, _, _, _, rfl, rfl⟩
        · rw [if_neg (show ¬ (1 : Int32) = 0 by decide), if_pos (n0le (by omega))]
          by_cases t0 : a1 = 0
          · rw [if_pos t0, if_pos t0]
            exact ⟨_, _, _, _, _, _, _, _, _, _, _, _, _, _, _, _, _, _, _, _, _, _, rfl, rfl⟩
          · rw [if_neg t0, if_neg t0]
            exact ⟨_, _, _, _, _, _, _, _, _, _, _, _, _, _, _, _, _, _, _, _, _, _, rfl, rfl⟩
      · rw [if_neg c4, if_pos (show nn 1 < a1 from Int32.not_le.mp c4), if_pos rfl]; exact hno
theorem r_breaks_r {nc ns nt pu f : Nat} {code sumEnd testEnd : Nat → Int32} {wo stack : Nat → Int64} {top : Int32} (hI : IV R P S) (hW : RWd S hour broken rung grip want slips worn) (hL : RLd R P S rungs people room strength weight told) (hh : ∃ h, h < 1000 ∧ hour = nn h) (hf6 : f < 6) (hfo : fo = nn f) (hrc : ¬ rc ≤ fo) (hru : rls f = some pu) (hE : REv nc code ns sumEnd nt testEnd sign clause clauses fo) (a1 : Int32) : ∃ v ob1 oh1 hb1 wl1 de1 wo1 h1 b1 rg1 gr1 wt1 sl1 wn1 sk1 tq1 q1 st1 tp1 wd1 wi1 mo1 br1 kp1 bh1, f11_breaks_r rls rc fo hour broken rung grip want slips worn rungs people room strength weight told ob oh hb wl de wo th tb tr tg tw ts tk nc code ns sumEnd nt testEnd stack top pu qp qn a1 = some (v, ob1, oh1, hb1, wl1, de1, wo1, h1, b1, rg1, gr1, wt1, sl1, wn1, sk1, tq1, q1) ∧ f12_breaks sign clause clauses st tp wd S fo wil mov bk kept bh a1 = some (v, st1, tp1, wd1, S, wi1, mo1, br1, kp1, bh1) := by
  have hR9 := hI.1.1
  obtain ⟨h0, hh0, hth⟩ := hh
  have hf : ¬ fo < 0 := by rw [hfo]; exact nlt0 (by omega)
  have hin : f11_inForce_r rls rc fo pu = some () := by
    unfold f11_inForce_r
    rw [if_neg hf, if_neg hrc, hfo, nn_nat (show f < 2147483648 by omega), if_neg (ng (by omega) (by omega)), hru, if_neg (fun h => h rfl)]
  have hno : ∃ v ob1 oh1 hb1 wl1 de1 wo1 h1 b1 rg1 gr1 wt1 sl1 wn1 sk1 tq1 q1 st1 tp1 wd1 wi1 mo1 br1 kp1 bh1, some ((-1 : Int32), ob, oh, hb, wl, de, wo, th, tb, tr, tg, tw, ts, tk, stack, top, qp) = some (v, ob1, oh1, hb1, wl1, de1, wo1, h1, b1, rg1, gr1, wt1, sl1, wn1, sk1, tq1, q1) ∧ some ((-1 : Int32), st, tp, wd, S, wil, mov, bk, kept, bh) = some (v, st1, tp1, wd1, S, wi1, mo1, br1, kp1, bh1) := ⟨-1, ob, oh, hb, wl, de, wo, th, tb, tr, tg, tw, ts, tk, stack, top, qp, st, tp, wd, wil, mov, bk, kept, bh, rfl, rfl⟩
  have i2 : f12_in (Int32.toInt64 a1) (0 : Int64) (1 : Int64) = _ := m_in (a := a1) (lo := 0) (hi := 1) (by decide) (by decide)
  unfold f11_breaks_r f12_breaks
  rcases p_has hI with ⟨z0, e1, e2⟩ | ⟨z0, e1, e2⟩
  · rw [hL.1, e1, e2, bnd1_s, bnd1_s, if_pos rfl, if_pos rfl]; exact hno
  · have hk : f11_hasLadder rungs = some 1 := by rw [hL.1]; exact e1
    rw [hk, e2, bnd1_s, bnd1_s, if_neg (show ¬ (1 : Int32) = 0 by decide), if_neg (show ¬ (1 : Int32) = 0 by decide), i2, bnd1_s]
    by_cases c1 : a1 < 0
    · rw [if_pos c1, if_pos (show a1 < nn 0 from c1), if_pos rfl]; exact hno
    · rw [if_neg c1, if_neg (show ¬ a1 < nn 0 from c1)]
      by_cases c4 : a1 ≤ 1
      · obtain ⟨ret, br1, bh1, hb1, wl1, de1, wo1, h1, b1, rg1, gr1, wt1, sl1, wn1, sk1, tq1, v, st1, tp1, wd1, S1, wi1, mo1, bk1, bq1, m1, m2, m3, m4⟩ := r_fore (o_brokenRung := ob) (o_brokenHour := oh) (hb := hb) (wl := wl) (de := de) (wo := wo) (stack := stack) (top := top) (th := th) (tb := tb) (tr := tr) (tg := tg) (tw := tw) (ts := ts) (tk := tk) (st := st) (tp := tp) (wd := wd) (wil := wil) (mov := mov) (bk := bk) (bh := bh) hth (by omega) hI hW hL hf hE
        have hb : ov 62 (ov 62 S kept) S1 = S := ov_back (fun i hi => m3.2.2.2 i hi)
        rw [if_pos c4, if_neg (show ¬ nn 1 < a1 from Int32.not_lt.mpr c4), if_neg (show ¬ (1 : Int32) = 0 by decide), hin, bnd0_s, m1, bnd16_s, m_keeps, bnd1_s, m2, bnd9_s, m_laysBack, bnd1_s, hb]
        rcases m4 with ⟨rfl, rfl⟩ | ⟨rfl, r, h, hr, rfl, rfl, rfl, rfl, -, -⟩
        · rw [if_pos rfl, if_neg (show ¬ (0 : Int32) ≤ -1 by decide)]
          exact ⟨_, _, _, _, _, _, _, _, _, _, _, _, _, _, _, _, _, _, _, _, _, _, _, _, _, rfl, rfl⟩
        · rw [if_neg (show ¬ (1 : Int32) = 0 by decide), if_pos (n0le (by omega))]
          by_cases t0 : a1 = 0
          · rw [if_pos t0, if_pos t0]
            exact ⟨_, _, _, _, _, _, _, _, _, _, _, _, _, _, _, _, _, _, _, _, _, _, _, _, _, rfl, rfl⟩
          · rw [if_neg t0, if_neg t0]
            exact ⟨_, _, _, _, _, _, _, _, _, _, _, _, _, _, _, _, _, _, _, _, _, _, _, _, _, rfl, rfl⟩
      · rw [if_neg c4, if_pos (show nn 1 < a1 from Int32.not_le.mp c4), if_pos rfl]; exact hno
end
