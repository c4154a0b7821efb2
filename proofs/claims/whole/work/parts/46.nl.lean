/-! the hours ahead -/
section
variable {S : Nat → Int32} {R P qn qp : Nat} {hour broken rungs people rc fo hb bk tp th tb : Int32} {rung grip want slips worn room strength weight told wl de wil mov sign clause clauses tr tg tw ts tk kept : Nat → Int32} {st wd : Nat → Int64} {rls : Nat → Option Nat}
theorem r_ahead_n (hI : IV R P S) (hW : RWd S hour broken rung grip want slips worn) (hL : RLd R P S rungs people room strength weight told) (hf : fo < 0) (a1 a2 a3 : Int32) : ∃ v hb1 wl1 de1 h1 b1 rg1 gr1 wt1 sl1 wn1 q1 st1 tp1 wd1 wi1 mo1 br1 kp1, f11_ahead_n rls rc fo hour broken rung grip want slips worn rungs people room strength weight told hb wl de th tb tr tg tw ts tk qp qn a1 a2 a3 = some (v, hb1, wl1, de1, h1, b1, rg1, gr1, wt1, sl1, wn1, q1) ∧ f12_ahead sign clause clauses st tp wd S fo wil mov bk kept a1 a2 a3 = some (v, st1, tp1, wd1, S, wi1, mo1, br1, kp1) := by
  have hP4 := hI.1.2.1
  have hin : f11_inForce_n rls rc fo = some () := by
    unfold f11_inForce_n f11_inForce_n_J29
    rw [if_pos hf]
  have hno : ∃ v hb1 wl1 de1 h1 b1 rg1 gr1 wt1 sl1 wn1 q1 st1 tp1 wd1 wi1 mo1 br1 kp1, some ((-2 : Int32), hb, wl, de, th, tb, tr, tg, tw, ts, tk, qp) = some (v, hb1, wl1, de1, h1, b1, rg1, gr1, wt1, sl1, wn1, q1) ∧ some ((-2 : Int32), st, tp, wd, S, wil, mov, bk, kept) = some (v, st1, tp1, wd1, S, wi1, mo1, br1, kp1) := ⟨-2, hb, wl, de, th, tb, tr, tg, tw, ts, tk, qp, st, tp, wd, wil, mov, bk, kept, rfl, rfl⟩
  have i2 : f12_in (Int32.toInt64 a2) (0 : Int64) (100 : Int64) = _ := m_in (a := a2) (lo := 0) (hi := 100) (by decide) (by decide)
  have i3 : f12_in (Int32.toInt64 a3) (0 : Int64) (2 : Int64) = _ := m_in (a := a3) (lo := 0) (hi := 2) (by decide) (by decide)
  unfold f11_ahead_n f12_ahead
  have hpe : f11_isPerson people a1 = f11_isPerson (nn P) a1 := by rw [hL.2.1]
  rw [hpe]
  rcases p_isPerson hI a1 with ⟨p, hp1, rfl, e1, e2⟩ | ⟨e1, e2⟩
  · have hp4 : p < 4 := by omega
    rw [e1, e2, bnd1_s, bnd1_s, if_neg (show ¬ (1 : Int32) = 0 by decide), if_neg (show ¬ (1 : Int32) = 0 by decide), i2, bnd1_s]
    by_cases c1 : a2 < 0
    · rw [if_pos c1, if_pos (show a2 < nn 0 from c1), if_pos rfl]; exact hno
    · rw [if_neg c1, if_neg (show ¬ a2 < nn 0 from c1)]
      by_cases c2 : 100 < a2
      · rw [if_pos c2, if_pos (show nn 100 < a2 from c2), if_pos rfl]; exact hno
      · rw [if_neg c2, if_neg (show ¬ nn 100 < a2 from c2), if_neg (show ¬ (1 : Int32) = 0 by decide), i3, bnd1_s]
        by_cases c3 : a3 < 0
        · rw [if_pos c3, if_pos (show a3 < nn 0 from c3), if_pos rfl]; exact hno
        · rw [if_neg c3, if_neg (show ¬ a3 < nn 0 from c3)]
          by_cases c4 : a3 ≤ 2
          · obtain ⟨n, hn, rfl⟩ := nn_of' (x := a2) c1
            have hn1 : n < 1000 := by
              rcases Nat.lt_or_ge 100 n with h | h
              · exact absurd (nltT (a := 100) (by omega) hn h) c2
              · omega
            obtain ⟨hb1, wl1, de1, h1, b1, rg1, gr1, wt1, sl1, wn1, st1, tp1, wd1, S1, wi1, mo1, br1, m1, m2, m3, m4, m5⟩ := r_after_n (hb := hb) (wl := wl) (de := de) (th := th) (tb := tb) (tr := tr) (tg := tg) (tw := tw) (ts := ts) (tk := tk) (st := st) (tp := tp) (wd := wd) (wil := wil) (mov := mov) (bk := bk) (sign := sign) (clause := clause) (clauses := clauses) hn1 hI hW hL hf
            have hb : ov 62 (ov 62 S kept) S1 = S := ov_back (fun i hi => m5.2.2.2 i hi)
            rw [if_pos c4, if_neg (show ¬ nn 2 < a3 from Int32.not_lt.mpr c4), if_neg (show ¬ (1 : Int32) = 0 by decide), hin, bnd0_s, m1, bnd10_s, m_keeps, bnd1_s, m2, bnd7_s]
            unfold f12_ahead_J79
            by_cases t0 : a3 = 0
            · subst t0
              rw [if_pos (show Int32.toInt 0 = 0 from rfl), if_pos rfl, nn_nat (show p < 2147483648 by omega), if_neg (ng (by omega) (by omega)), lt_df, m_p0 hp4, bnd1_s, m_laysBack, bnd1_s, hb, m3.2.2.1 p hp4]
              exact ⟨_, _, _, _, _, _, _, _, _, _, _, _, _, _, _, _, _, _, _, rfl, rfl⟩
            · rw [if_neg (show ¬ Int32.toInt a3 = 0 from toI_ne (k := 0) (by decide) t0), if_neg t0]
              by_cases t1 : a3 = 1
              · subst t1
                rw [if_pos (show Int32.toInt 1 = 1 from rfl), if_pos rfl, nn_nat (show p < 2147483648 by omega), if_neg (ng (by omega) (by omega)), lt_df, m_p1 hp4, bnd1_s, m_laysBack, bnd1_s, hb, m3.2.2.2.1 p hp4]
                exact ⟨_, _, _, _, _, _, _, _, _, _, _, _, _, _, _, _, _, _, _, rfl, rfl⟩
              · rw [if_neg (show ¬ Int32.toInt a3 = 1 from toI_ne (k := 1) (by decide) t1), if_neg t1, nn_nat (show p < 2147483648 by omega), if_neg (ng (by omega) (by omega)), lt_df, m_p3 hp4, bnd1_s, m_laysBack, bnd1_s, hb, m3.2.2.2.2.2.1 p hp4]
                exact ⟨_, _, _, _, _, _, _, _, _, _, _, _, _, _, _, _, _, _, _, rfl, rfl⟩
          · rw [if_neg c4, if_pos (show nn 2 < a3 from Int32.not_le.mp c4), if_pos rfl]; exact hno
  · rw [e1, e2, bnd1_s, bnd1_s, if_pos rfl, if_pos rfl]; exact hno
theorem r_ahead_r {nc ns nt pu f : Nat} {code sumEnd testEnd : Nat → Int32} {wo stack : Nat → Int64} {top : Int32} (hI : IV R P S) (hW : RWd S hour broken rung grip want slips worn) (hL : RLd R P S rungs people room strength weight told) (hf6 : f < 6) (hfo : fo = nn f) (hrc : ¬ rc ≤ fo) (hru : rls f = some pu) (hE : REv nc code ns sumEnd nt testEnd sign clause clauses fo) (a1 a2 a3 : Int32) : ∃ v hb1 wl1 de1 wo1 h1 b1 rg1 gr1 wt1 sl1 wn1 sk1 tq1 q1 st1 tp1 wd1 wi1 mo1 br1 kp1, f11_ahead_r rls rc fo hour broken rung grip want slips worn rungs people room strength weight told hb wl de wo th tb tr tg tw ts tk nc code ns sumEnd nt testEnd stack top pu qp qn a1 a2 a3 = some (v, hb1, wl1, de1, wo1, h1, b1, rg1, gr1, wt1, sl1, wn1, sk1, tq1, q1) ∧ f12_ahead sign clause clauses st tp wd S fo wil mov bk kept a1 a2 a3 = some (v, st1, tp1, wd1, S, wi1, mo1, br1, kp1) := by
  have hP4 := hI.1.2.1
  have hf : ¬ fo < 0 := by rw [hfo]; exact nlt0 (by omega)
  have hin : f11_inForce_r rls rc fo pu = some () := by
    unfold f11_inForce_r
    rw [if_neg hf, if_neg hrc, hfo, nn_nat (show f < 2147483648 by omega), if_neg (ng (by omega) (by omega)), hru, if_neg (fun h => h rfl)]
  have hno : ∃ v hb1 wl1 de1 wo1 h1 b1 rg1 gr1 wt1 sl1 wn1 sk1 tq1 q1 st1 tp1 wd1 wi1 mo1 br1 kp1, some ((-2 : Int32), hb, wl, de, wo, th, tb, tr, tg, tw, ts, tk, stack, top, qp) = some (v, hb1, wl1, de1, wo1, h1, b1, rg1, gr1, wt1, sl1, wn1, sk1, tq1, q1) ∧ some ((-2 : Int32), st, tp, wd, S, wil, mov, bk, kept) = some (v, st1, tp1, wd1, S, wi1, mo1, br1, kp1) := ⟨-2, hb, wl, de, wo, th, tb, tr, tg, tw, ts, tk, stack, top, qp, st, tp, wd, wil, mov, bk, kept, rfl, rfl⟩
  have i2 : f12_in (Int32.toInt64 a2) (0 : Int64) (100 : Int64) = _ := m_in (a := a2) (lo := 0) (hi := 100) (by decide) (by decide)
  have i3 : f12_in (Int32.toInt64 a3) (0 : Int64) (2 : Int64) = _ := m_in (a := a3) (lo := 0) (hi := 2) (by decide) (by decide)
  unfold f11_ahead_r f12_ahead
  have hpe : f11_isPerson people a1 = f11_isPerson (nn P) a1 := by rw [hL.2.1]
  rw [hpe]
  rcases p_isPerson hI a1 with ⟨p, hp1, rfl, e1, e2⟩ | ⟨e1, e2⟩
  · have hp4 : p < 4 := by omega
    rw [e1, e2, bnd1_s, bnd1_s, if_neg (show ¬ (1 : Int32) = 0 by decide), if_neg (show ¬ (1 : Int32) = 0 by decide), i2, bnd1_s]
    by_cases c1 : a2 < 0
    · rw [if_pos c1, if_pos (show a2 < nn 0 from c1), if_pos rfl]; exact hno
    · rw [if_neg c1, if_neg (show ¬ a2 < nn 0 from c1)]
      by_cases c2 : 100 < a2
      · rw [if_pos c2, if_pos (show nn 100 < a2 from c2), if_pos rfl]; exact hno
      · rw [if_neg c2, if_neg (show ¬ nn 100 < a2 from c2), if_neg (show ¬ (1 : Int32) = 0 by decide), i3, bnd1_s]
        by_cases c3 : a3 < 0
        · rw [if_pos c3, if_pos (show a3 < nn 0 from c3), if_pos rfl]; exact hno
        · rw [if_neg c3, if_neg (show ¬ a3 < nn 0 from c3)]
          by_cases c4 : a3 ≤ 2
          · obtain ⟨n, hn, rfl⟩ := nn_of' (x := a2) c1
            have hn1 : n < 1000 := by
              rcases Nat.lt_or_ge 100 n with h | h
              · exact absurd (nltT (a := 100) (by omega) hn h) c2
              · omega
            obtain ⟨hb1, wl1, de1, wo1, h1, b1, rg1, gr1, wt1, sl1, wn1, sk1, tq1, st1, tp1, wd1, S1, wi1, mo1, br1, m1, m2, m3, m4, m5⟩ := r_after (hb := hb) (wl := wl) (de := de) (th := th) (tb := tb) (tr := tr) (tg := tg) (tw := tw) (ts := ts) (tk := tk) (st := st) (tp := tp) (wd := wd) (wil := wil) (mov := mov) (bk := bk) (wo := wo) (stack := stack) (top := top) hn1 hI hW hL hf hE
            have hb : ov 62 (ov 62 S kept) S1 = S := ov_back (fun i hi => m5.2.2.2 i hi)
            rw [if_pos c4, if_neg (show ¬ nn 2 < a3 from Int32.not_lt.mpr c4), if_neg (show ¬ (1 : Int32) = 0 by decide), hin, bnd0_s, m1, bnd13_s, m_keeps, bnd1_s, m2, bnd7_s]
            unfold f12_ahead_J79
            by_cases t0 : a3 = 0
            · subst t0
              rw [if_pos (show Int32.toInt 0 = 0 from rfl), if_pos rfl, nn_nat (show p < 2147483648 by omega), if_neg (ng (by omega) (by omega)), lt_df, m_p0 hp4, bnd1_s, m_laysBack, bnd1_s, hb, m3.2.2.1 p hp4]
              exact ⟨_, _, _, _, _, _, _, _, _, _, _, _, _, _, _, _, _, _, _, _, _, _, rfl, rfl⟩
            · rw [if_neg (show ¬ Int32.toInt a3 = 0 from toI_ne (k := 0) (by decide) t0), if_neg t0]
              by_cases t1 : a3 = 1
              · subst t1
                rw [if_pos (show Int32.toInt 1 = 1 from rfl), if_pos rfl, nn_nat (show p < 2147483648 by omega), if_neg (ng (by omega) (by omega)), lt_df, m_p1 hp4, bnd1_s, m_laysBack, bnd1_s, hb, m3.2.2.2.1 p hp4]
                exact ⟨_, _, _, _, _, _, _, _, _, _, _, _, _, _, _, _, _, _, _, _, _, _, rfl, rfl⟩
              · rw [if_neg (show ¬ Int32.toInt a3 = 1 from toI_ne (k := 1) (by decide) t1), if_neg t1, nn_nat (show p < 2147483648 by omega), if_neg (ng (by omega) (by omega)), lt_df, m_p3 hp4, bnd1_s, m_laysBack, bnd1_s, hb, m3.2.2.2.2.2.1 p hp4]
                exact ⟨_, _, _, _, _, _, _, _, _, _, _, _, _, _, _, _, _, _, _, _, _, _, rfl, rfl⟩
          · rw [if_neg c4, if_pos (show nn 2 < a3 from Int32.not_le.mp c4), if_pos rfl]; exact hno
  · rw [e1, e2, bnd1_s, bnd1_s, if_pos rfl, if_pos rfl]; exact hno
end
