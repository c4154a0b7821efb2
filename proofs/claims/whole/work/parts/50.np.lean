/-! years of wind -/
section
variable {S : Nat → Int32} {R P : Nat} {hour broken rungs people rc fo ws wf wx hb bk tp th tb xv : Int32} {dx : Int64} {rung grip want slips worn room strength weight told wl de wil mov sign clause clauses tr tg tw ts tk kept : Nat → Int32} {st wd : Nat → Int64} {rls : Nat → Option Nat}
theorem r_years_n (hI : IV R P S) (hW : RWd S hour broken rung grip want slips worn) (hL : RLd R P S rungs people room strength weight told) (hx : ∃ d, d < 2147483648 ∧ xv = nn d) (hf : fo < 0) (a1 a2 a3 a4 : Int32) : ∃ v ws1 wf1 wx1 hb1 wl1 de1 h1 b1 rg1 gr1 wt1 sl1 wn1 st1 tp1 wd1 wi1 mo1 br1 kp1 dx1, f11_years_n rls rc fo xv hour broken rung grip want slips worn rungs people room strength weight told ws wf wx hb wl de th tb tr tg tw ts tk a1 a2 a3 a4 = some (v, ws1, wf1, wx1, hb1, wl1, de1, h1, b1, rg1, gr1, wt1, sl1, wn1) ∧ f12_years sign clause clauses st tp wd S fo xv wil mov bk kept dx a1 a2 a3 a4 = some (v, st1, tp1, wd1, S, wi1, mo1, br1, kp1, dx1) := by
  have hP4 := hI.1.2.1
  obtain ⟨d, hd, hxd⟩ := hx
  have hin : f11_inForce_n rls rc fo = some () := by
    unfold f11_inForce_n f11_inForce_n_J29
    rw [if_pos hf]
  have hno : ∃ v ws1 wf1 wx1 hb1 wl1 de1 h1 b1 rg1 gr1 wt1 sl1 wn1 st1 tp1 wd1 wi1 mo1 br1 kp1 dx1, some ((-1 : Int32), ws, wf, wx, hb, wl, de, th, tb, tr, tg, tw, ts, tk) = some (v, ws1, wf1, wx1, hb1, wl1, de1, h1, b1, rg1, gr1, wt1, sl1, wn1) ∧ some ((-1 : Int32), st, tp, wd, S, wil, mov, bk, kept, dx) = some (v, st1, tp1, wd1, S, wi1, mo1, br1, kp1, dx1) := ⟨-1, ws, wf, wx, hb, wl, de, th, tb, tr, tg, tw, ts, tk, st, tp, wd, wil, mov, bk, kept, dx, rfl, rfl⟩
  have i1 : f12_in (Int32.toInt64 a1) (1 : Int64) (10 : Int64) = _ := m_in (a := a1) (lo := 1) (hi := 10) (by decide) (by decide)
  have i2 : f12_in (Int32.toInt64 a2) (1 : Int64) (60 : Int64) = _ := m_in (a := a2) (lo := 1) (hi := 60) (by decide) (by decide)
  have i3 : f12_in (Int32.toInt64 a3) (0 : Int64) (100 : Int64) = _ := m_in (a := a3) (lo := 0) (hi := 100) (by decide) (by decide)
  have i4 : f12_in (Int32.toInt64 a4) (0 : Int64) (1 : Int64) = _ := m_in (a := a4) (lo := 0) (hi := 1) (by decide) (by decide)
  unfold f11_years_n f12_years
  rcases p_has hI with ⟨z0, e1, e2⟩ | ⟨z0, e1, e2⟩
  · rw [hL.1, e1, e2, bnd1_s, bnd1_s, if_pos rfl, if_pos rfl]; exact hno
  · have hk : f11_hasLadder rungs = some 1 := by rw [hL.1]; exact e1
    rw [hk, e2, bnd1_s, bnd1_s, if_neg (show ¬ (1 : Int32) = 0 by decide), if_neg (show ¬ (1 : Int32) = 0 by decide), i1, bnd1_s]
    by_cases c1 : a1 < 1
    · rw [if_pos c1, if_pos (show a1 < nn 1 from c1), if_pos rfl]; exact hno
    rw [if_neg c1, if_neg (show ¬ a1 < nn 1 from c1)]
    by_cases c2 : 10 < a1
    · rw [if_pos c2, if_pos (show nn 10 < a1 from c2), if_pos rfl]; exact hno
    rw [if_neg c2, if_neg (show ¬ nn 10 < a1 from c2), if_neg (show ¬ (1 : Int32) = 0 by decide), i2, bnd1_s]
    by_cases c3 : a2 < 1
    · rw [if_pos c3, if_pos (show a2 < nn 1 from c3), if_pos rfl]; exact hno
    rw [if_neg c3, if_neg (show ¬ a2 < nn 1 from c3)]
    by_cases c4 : a2 ≤ 60
    · rw [if_pos c4, if_neg (show ¬ nn 60 < a2 from Int32.not_lt.mpr c4), if_neg (show ¬ (1 : Int32) = 0 by decide), i3, bnd1_s]
      by_cases c5 : a3 < 0
      · rw [if_pos c5, if_pos (show a3 < nn 0 from c5), if_pos rfl]; exact hno
      rw [if_neg c5, if_neg (show ¬ a3 < nn 0 from c5)]
      by_cases c6 : 100 < a3
      · rw [if_pos c6, if_pos (show nn 100 < a3 from c6), if_pos rfl]; exact hno
      rw [if_neg c6, if_neg (show ¬ nn 100 < a3 from c6), if_neg (show ¬ (1 : Int32) = 0 by decide), i4, bnd1_s]
      by_cases c7 : a4 < 0
      · rw [if_pos c7, if_pos (show a4 < nn 0 from c7), if_pos rfl]; exact hno
      rw [if_neg c7, if_neg (show ¬ a4 < nn 0 from c7)]
      by_cases c8 : a4 ≤ 1
      · obtain ⟨m, hm1, hm2, rfl⟩ := nn_rng (x := a1) (lo := 1) (hi := 10) (by decide) (by decide) c1 c2
        obtain ⟨n, hn1, hn2, rfl⟩ := nn_rng (x := a2) (lo := 1) (hi := 60) (by decide) (by decide) c3 (Int32.not_lt.mpr c4)
        obtain ⟨ws1, wf1, wx1, hb1, wl1, de1, h1, b1, rg1, gr1, wt1, sl1, wn1, st1, tp1, wd1, wi1, mo1, bk1, dx1, m1, m2⟩ := r_blow_n (ws0 := ws) (wf0 := wf) (wx0 := wx) (hb := hb) (wl := wl) (de := de) (th := th) (tb := tb) (tr := tr) (tg := tg) (tw := tw) (ts := ts) (tk := tk) (st := st) (tp := tp) (wd := wd) (wil := wil) (mov := mov) (bk := bk) (kept := kept) (pp := a3) (sign := sign) (clause := clause) (clauses := clauses) (show m < 1000 by omega) (show n < 1000 by omega) hd hI hW hL hf
        rw [if_pos c8, if_neg (show ¬ nn 1 < a4 from Int32.not_lt.mpr c8), if_neg (show ¬ (1 : Int32) = 0 by decide), hin, bnd0_s, hxd, m1, bnd13_s, show Int32.toInt64 (nn d) = lN d from nI_l hd, lt_df, m_fallen hI.1.2.2.2.1 hP4, bnd1_s, m_keeps, bnd1_s, m2, bnd10_s]
        by_cases t0 : a4 = 0
        · rw [if_pos t0, if_pos t0]
          exact ⟨_, _, _, _, _, _, _, _, _, _, _, _, _, _, _, _, _, _, _, _, _, _, rfl, rfl⟩
        · rw [if_neg t0, if_neg t0]
          exact ⟨_, _, _, _, _, _, _, _, _, _, _, _, _, _, _, _, _, _, _, _, _, _, rfl, rfl⟩
      · rw [if_neg c8, if_pos (show nn 1 < a4 from Int32.not_le.mp c8), if_pos rfl]; exact hno
    · rw [if_neg c4, if_pos (show nn 60 < a2 from Int32.not_le.mp c4), if_pos rfl]; exact hno
theorem r_years_r {nc ns nt pu f : Nat} {code sumEnd testEnd : Nat → Int32} {wo stack : Nat → Int64} {top : Int32} (hI : IV R P S) (hW : RWd S hour broken rung grip want slips worn) (hL : RLd R P S rungs people room strength weight told) (hx : ∃ d, d < 2147483648 ∧ xv = nn d) (hf6 : f < 6) (hfo : fo = nn f) (hrc : ¬ rc ≤ fo) (hru : rls f = some pu) (hE : REv nc code ns sumEnd nt testEnd sign clause clauses fo) (a1 a2 a3 a4 : Int32) : ∃ v ws1 wf1 wx1 hb1 wl1 de1 wo1 h1 b1 rg1 gr1 wt1 sl1 wn1 sk1 tq1 st1 tp1 wd1 wi1 mo1 br1 kp1 dx1, f11_years_r rls rc fo xv hour broken rung grip want slips worn rungs people room strength weight told ws wf wx hb wl de wo th tb tr tg tw ts tk nc code ns sumEnd nt testEnd stack top pu a1 a2 a3 a4 = some (v, ws1, wf1, wx1, hb1, wl1, de1, wo1, h1, b1, rg1, gr1, wt1, sl1, wn1, sk1, tq1) ∧ f12_years sign clause clauses st tp wd S fo xv wil mov bk kept dx a1 a2 a3 a4 = some (v, st1, tp1, wd1, S, wi1, mo1, br1, kp1, dx1) := by
  have hP4 := hI.1.2.1
  obtain ⟨d, hd, hxd⟩ := hx
  have hf : ¬ fo < 0 := by rw [hfo]; exact nlt0 (by omega)
  have hin : f11_inForce_r rls rc fo pu = some () := by
    unfold f11_inForce_r
    rw [if_neg hf, if_neg hrc, hfo, nn_nat (show f < 2147483648 by omega), if_neg (ng (by omega) (by omega)), hru, if_neg (fun h => h rfl)]
  have hno : ∃ v ws1 wf1 wx1 hb1 wl1 de1 wo1 h1 b1 rg1 gr1 wt1 sl1 wn1 sk1 tq1 st1 tp1 wd1 wi1 mo1 br1 kp1 dx1, some ((-1 : Int32), ws, wf, wx, hb, wl, de, wo, th, tb, tr, tg, tw, ts, tk, stack, top) = some (v, ws1, wf1, wx1, hb1, wl1, de1, wo1, h1, b1, rg1, gr1, wt1, sl1, wn1, sk1, tq1) ∧ some ((-1 : Int32), st, tp, wd, S, wil, mov, bk, kept, dx) = some (v, st1, tp1, wd1, S, wi1, mo1, br1, kp1, dx1) := ⟨-1, ws, wf, wx, hb, wl, de, wo, th, tb, tr, tg, tw, ts, tk, stack, top, st, tp, wd, wil, mov, bk, kept, dx, rfl, rfl⟩
  have i1 : f12_in (Int32.toInt64 a1) (1 : Int64) (10 : Int64) = _ := m_in (a := a1) (lo := 1) (hi := 10) (by decide) (by decide)
  have i2 : f12_in (Int32.toInt64 a2) (1 : Int64) (60 : Int64) = _ := m_in (a := a2) (lo := 1) (hi := 60) (by decide) (by decide)
  have i3 : f12_in (Int32.toInt64 a3) (0 : Int64) (100 : Int64) = _ := m_in (a := a3) (lo := 0) (hi := 100) (by decide) (by decide)
  have i4 : f12_in (Int32.toInt64 a4) (0 : Int64) (1 : Int64) = _ := m_in (a := a4) (lo := 0) (hi := 1) (by decide) (by decide)
  unfold f11_years_r f12_years
  rcases p_has hI with ⟨z0, e1, e2⟩ | ⟨z0, e1, e2⟩
  · rw [hL.1, e1, e2, bnd1_s, bnd1_s, if_pos rfl, if_pos rfl]; exact hno
  · have hk : f11_hasLadder rungs = some 1 := by rw [hL.1]; exact e1
    rw [hk, e2, bnd1_s, bnd1_s, if_neg (show ¬ (1 : Int32) = 0 by decide), if_neg (show ¬ (1 : Int32) = 0 by decide), i1, bnd1_s]
    by_cases c1 : a1 < 1
    · rw [if_pos c1, if_pos (show a1 < nn 1 from c1), if_pos rfl]; exact hno
    rw [if_neg c1, if_neg (show ¬ a1 < nn 1 from c1)]
    by_cases c2 : 10 < a1
    · rw [if_pos c2, if_pos (show nn 10 < a1 from c2), if_pos rfl]; exact hno
    rw [if_neg c2, if_neg (show ¬ nn 10 < a1 from c2), if_neg (show ¬ (1 : Int32) = 0 by decide), i2, bnd1_s]
    by_cases c3 : a2 < 1
    · rw [if_pos c3, if_pos (show a2 < nn 1 from c3), if_pos rfl]; exact hno
    rw [if_neg c3, if_neg (show ¬ a2 < nn 1 from c3)]
    by_cases c4 : a2 ≤ 60
    · rw [if_pos c4, if_neg (show ¬ nn 60 < a2 from Int32.not_lt.mpr c4), if_neg (show ¬ (1 : Int32) = 0 by decide), i3, bnd1_s]
      by_cases c5 : a3 < 0
      · rw [if_pos c5, if_pos (show a3 < nn 0 from c5), if_pos rfl]; exact hno
      rw [if_neg c5, if_neg (show ¬ a3 < nn 0 from c5)]
      by_cases c6 : 100 < a3
      · rw [if_pos c6, if_pos (show nn 100 < a3 from c6), if_pos rfl]; exact hno
      rw [if_neg c6, if_neg (show ¬ nn 100 < a3 from c6), if_neg (show ¬ (1 : Int32) = 0 by decide), i4, bnd1_s]
      by_cases c7 : a4 < 0
      · rw [if_pos c7, if_pos (show a4 < nn 0 from c7), if_pos rfl]; exact hno
      rw [if_neg c7, if_neg (show ¬ a4 < nn 0 from c7)]
      by_cases c8 : a4 ≤ 1
      · obtain ⟨m, hm1, hm2, rfl⟩ := nn_rng (x := a1) (lo := 1) (hi := 10) (by decide) (by decide) c1 c2
        obtain ⟨n, hn1, hn2, rfl⟩ := nn_rng (x := a2) (lo := 1) (hi := 60) (by decide) (by decide) c3 (Int32.not_lt.mpr c4)
        obtain ⟨ws1, wf1, wx1, hb1, wl1, de1, wo1, h1, b1, rg1, gr1, wt1, sl1, wn1, sk1, tq1, st1, tp1, wd1, wi1, mo1, bk1, dx1, m1, m2⟩ := r_blow (ws0 := ws) (wf0 := wf) (wx0 := wx) (hb := hb) (wl := wl) (de := de) (wo := wo) (stack := stack) (top := top) (th := th) (tb := tb) (tr := tr) (tg := tg) (tw := tw) (ts := ts) (tk := tk) (st := st) (tp := tp) (wd := wd) (wil := wil) (mov := mov) (bk := bk) (kept := kept) (pp := a3) (show m < 1000 by omega) (show n < 1000 by omega) hd hI hW hL hf hE
        rw [if_pos c8, if_neg (show ¬ nn 1 < a4 from Int32.not_lt.mpr c8), if_neg (show ¬ (1 : Int32) = 0 by decide), hin, bnd0_s, hxd, m1, bnd16_s, show Int32.toInt64 (nn d) = lN d from nI_l hd, lt_df, m_fallen hI.1.2.2.2.1 hP4, bnd1_s, m_keeps, bnd1_s, m2, bnd10_s]
        by_cases t0 : a4 = 0
        · rw [if_pos t0, if_pos t0]
          exact ⟨_, _, _, _, _, _, _, _, _, _, _, _, _, _, _, _, _, _, _, _, _, _, _, _, _, rfl, rfl⟩
        · rw [if_neg t0, if_neg t0]
          exact ⟨_, _, _, _, _, _, _, _, _, _, _, _, _, _, _, _, _, _, _, _, _, _, _, _, _, rfl, rfl⟩
      · rw [if_neg c8, if_pos (show nn 1 < a4 from Int32.not_le.mp c8), if_pos rfl]; exact hno
    · rw [if_neg c4, if_pos (show nn 60 < a2 from Int32.not_le.mp c4), if_pos rfl]; exact hno
end
