/-! what to mend -/
section
variable {S : Nat → Int32} {R P : Nat} {hour broken rungs people rc fo ob oh om on hb bk bh tp th tb : Int32} {rung grip want slips worn room strength weight told wl de wil mov sign clause clauses tr tg tw ts tk kept : Nat → Int32} {st wd : Nat → Int64} {rls : Nat → Option Nat}
theorem r_mending_n (hI : IV R P S) (hW : RWd S hour broken rung grip want slips worn) (hL : RLd R P S rungs people room strength weight told) (hh : ∃ h, h < 1000 ∧ hour = nn h) (hf : fo < 0) (a1 : Int32) : ∃ v ob1 oh1 om1 on1 hb1 wl1 de1 h1 b1 rg1 gr1 wt1 sl1 wn1 st1 tp1 wd1 wi1 mo1 br1 kp1 bh1, f11_mending_n rls rc fo hour broken rung grip want slips worn rungs people room strength weight told ob oh om on hb wl de th tb tr tg tw ts tk a1 = some (v, ob1, oh1, om1, on1, hb1, wl1, de1, h1, b1, rg1, gr1, wt1, sl1, wn1) ∧ f12_mending sign clause clauses st tp wd S fo wil mov bk kept bh a1 = some (v, st1, tp1, wd1, S, wi1, mo1, br1, kp1, bh1) := by
  have hR9 := hI.1.1
  obtain ⟨h0, hh0, hth⟩ := hh
  have hin : f11_inForce_n rls rc fo = some () := by
    unfold f11_inForce_n f11_inForce_n_J29
    rw [if_pos hf]
  have hno : ∃ v ob1 oh1 om1 on1 hb1 wl1 de1 h1 b1 rg1 gr1 wt1 sl1 wn1 st1 tp1 wd1 wi1 mo1 br1 kp1 bh1, some ((-3 : Int32), ob, oh, om, on, hb, wl, de, th, tb, tr, tg, tw, ts, tk) = some (v, ob1, oh1, om1, on1, hb1, wl1, de1, h1, b1, rg1, gr1, wt1, sl1, wn1) ∧ some ((-3 : Int32), st, tp, wd, S, wil, mov, bk, kept, bh) = some (v, st1, tp1, wd1, S, wi1, mo1, br1, kp1, bh1) := ⟨-3, ob, oh, om, on, hb, wl, de, th, tb, tr, tg, tw, ts, tk, st, tp, wd, wil, mov, bk, kept, bh, rfl, rfl⟩
  have i2 : f12_in (Int32.toInt64 a1) (0 : Int64) (1 : Int64) = _ := m_in (a := a1) (lo := 0) (hi := 1) (by decide) (by decide)
  unfold f11_mending_n f12_mending
  rcases p_has hI with ⟨z0, e1, e2⟩ | ⟨z0, e1, e2⟩
  · rw [hL.1, e1, e2, bnd1_s, bnd1_s, if_pos rfl, if_pos rfl]; exact hno
  · have hk : f11_hasLadder rungs = some 1 := by rw [hL.1]; exact e1
    rw [hk, e2, bnd1_s, bnd1_s, if_neg (show ¬ (1 : Int32) = 0 by decide), if_neg (show ¬ (1 : Int32) = 0 by decide), i2, bnd1_s]
    by_cases c1 : a1 < 0
    · rw [if_pos c1, if_pos (show a1 < nn 0 from c1), if_pos rfl]; exact hno
    · rw [if_neg c1, if_neg (show ¬ a1 < nn 0 from c1)]
      by_cases c4 : a1 ≤ 1
      · obtain ⟨br1, bh1, mr1, mh1, hb1, wl1, de1, h1, b1, rg1, gr1, wt1, sl1, wn1, st1, tp1, wd1, wi1, mo1, bk1, kp1, bq1, best, lat2, m1, m2, m3⟩ := r_findM_n (o_brokenRung := ob) (o_brokenHour := oh) (o_mendedRung := om) (o_mendedHour := on) (hb := hb) (wl := wl) (de := de) (th := th) (tb := tb) (tr := tr) (tg := tg) (tw := tw) (ts := ts) (tk := tk) (st := st) (tp := tp) (wd := wd) (wil := wil) (mov := mov) (bk := bk) (bh := bh) (kept := kept) (sign := sign) (clause := clause) (clauses := clauses) hth (by omega) hI hW hL hf
        rw [if_pos c4, if_neg (show ¬ nn 1 < a1 from Int32.not_lt.mpr c4), if_neg (show ¬ (1 : Int32) = 0 by decide), hin, bnd0_s, m1, bnd14_s, m2, bnd11_s]
        unfold f12_mending_J117
        rcases m3 with ⟨rfl, rfl, rfl⟩ | ⟨q, hq, rfl, rfl, ⟨rfl, rfl⟩ | ⟨h, hh, rfl, rfl⟩⟩
        · rw [if_neg (show ¬ (0 : Int32) ≤ -2 by decide)]
          by_cases t0 : a1 = 0
          · rw [if_pos t0, if_pos t0]
            exact ⟨_, _, _, _, _, _, _, _, _, _, _, _, _, _, _, _, _, _, _, _, _, _, _, rfl, rfl⟩
          · rw [if_neg t0, if_neg t0]
            exact ⟨_, _, _, _, _, _, _, _, _, _, _, _, _, _, _, _, _, _, _, _, _, _, _, rfl, rfl⟩
        · rw [if_pos (n0le (show q < 2147483648 by omega)), if_pos rfl]
          by_cases t0 : a1 = 0
          · rw [if_pos t0, if_pos t0]
            exact ⟨_, _, _, _, _, _, _, _, _, _, _, _, _, _, _, _, _, _, _, _, _, _, _, rfl, rfl⟩
          · rw [if_neg t0, if_neg t0]
            exact ⟨_, _, _, _, _, _, _, _, _, _, _, _, _, _, _, _, _, _, _, _, _, _, _, rfl, rfl⟩
        · rw [if_pos (n0le (show q < 2147483648 by omega)), if_neg (show ¬ nn h = 9999 from nne (b := 9999) (by omega) (by omega) (by omega))]
          by_cases t0 : a1 = 0
          · rw [if_pos t0, if_pos t0]
            exact ⟨_, _, _, _, _, _, _, _, _, _, _, _, _, _, _, _, _, _, _, _, _, _, _, rfl, rfl⟩
          · rw [if_neg t0, if_neg t0]
            exact ⟨_, _, _, _, _, _, _, _, _, _, _, _, _, _, _, _, _, _, _, _, _, _, _, rfl, rfl⟩
      · rw [if_neg c4, if_pos (show nn 1 < a1 from Int32.not_le.mp c4), if_pos rfl]; exact hno
theorem r_mending_r {nc ns nt pu f : Nat} {code sumEnd testEnd : Nat → Int32} {wo stack : Nat → Int64} {top : Int32} (hI : IV R P S) (hW : RWd S hour broken rung grip want slips worn) (hL : RLd R P S rungs people room strength weight told) (hh : ∃ h, h < 1000 ∧ hour = nn h) (hf6 : f < 6) (hfo : fo = nn f) (hrc : ¬ rc ≤ fo) (hru : rls f = some pu) (hE : REv nc code ns sumEnd nt testEnd sign clause clauses fo) (a1 : Int32) : ∃ v ob1 oh1 om1 on1 hb1 wl1 de1 wo1 h1 b1 rg1 gr1 wt1 sl1 wn1 sk1 tq1 st1 tp1 wd1 wi1 mo1 br1 kp1 bh1, f11_mending_r rls rc fo hour broken rung grip want slips worn rungs people room strength weight told ob oh om on hb wl de wo th tb tr tg tw ts tk nc code ns sumEnd nt testEnd stack top pu a1 = some (v, ob1, oh1, om1, on1, hb1, wl1, de1, wo1, h1, b1, rg1, gr1, wt1, sl1, wn1, sk1, tq1) ∧ f12_mending sign clause clauses st tp wd S fo wil mov bk kept bh a1 = some (v, st1, tp1, wd1, S, wi1, mo1, br1, kp1, bh1) := by
  have hR9 := hI.1.1
  obtain ⟨h0, hh0, hth⟩ := hh
  have hf : ¬ fo < 0 := by rw [hfo]; exact nlt0 (by omega)
  have hin : f11_inForce_r rls rc fo pu = some () := by
    unfold f11_inForce_r
    rw [if_neg hf, if_neg hrc, hfo, nn_nat (show f < 2147483648 by omega), if_neg (ng (by omega) (by omega)), hru, if_neg (fun h => h rfl)]
  have hno : ∃ v ob1 oh1 om1 on1 hb1 wl1 de1 wo1 h1 b1 rg1 gr1 wt1 sl1 wn1 sk1 tq1 st1 tp1 wd1 wi1 mo1 br1 kp1 bh1, some ((-3 : Int32), ob, oh, om, on, hb, wl, de, wo, th, tb, tr, tg, tw, ts, tk, stack, top) = some (v, ob1, oh1, om1, on1, hb1, wl1, de1, wo1, h1, b1, rg1, gr1, wt1, sl1, wn1, sk1, tq1) ∧ some ((-3 : Int32), st, tp, wd, S, wil, mov, bk, kept, bh) = some (v, st1, tp1, wd1, S, wi1, mo1, br1, kp1, bh1) := ⟨-3, ob, oh, om, on, hb, wl, de, wo, th, tb, tr, tg, tw, ts, tk, stack, top, st, tp, wd, wil, mov, bk, kept, bh, rfl, rfl⟩
  have i2 : f12_in (Int32.toInt64 a1) (0 : Int64) (1 : Int64) = _ := m_in (a := a1) (lo := 0) (hi := 1) (by decide) (by decide)
  unfold f11_mending_r f12_mending
  rcases p_has hI with ⟨z0, e1, e2⟩ | ⟨z0, e1, e2⟩
  · rw [hL.1, e1, e2, bnd1_s, bnd1_s, if_pos rfl, if_pos rfl]; exact hno
  · have hk : f11_hasLadder rungs = some 1 := by rw [hL.1]; exact e1
    rw [hk, e2, bnd1_s, bnd1_s, if_neg (show ¬ (1 : Int32) = 0 by decide), if_neg (show ¬ (1 : Int32) = 0 by decide), i2, bnd1_s]
    by_cases c1 : a1 < 0
    · rw [if_pos c1, if_pos (show a1 < nn 0 from c1), if_pos rfl]; exact hno
    · rw [if_neg c1, if_neg (show ¬ a1 < nn 0 from c1)]
      by_cases c4 : a1 ≤ 1
      · obtain ⟨br1, bh1, mr1, mh1, hb1, wl1, de1, wo1, h1, b1, rg1, gr1, wt1, sl1, wn1, sk1, tq1, st1, tp1, wd1, wi1, mo1, bk1, kp1, bq1, best, lat2, m1, m2, m3⟩ := r_findM (o_brokenRung := ob) (o_brokenHour := oh) (o_mendedRung := om) (o_mendedHour := on) (hb := hb) (wl := wl) (de := de) (wo := wo) (stack := stack) (top := top) (th := th) (tb := tb) (tr := tr) (tg := tg) (tw := tw) (ts := ts) (tk := tk) (st := st) (tp := tp) (wd := wd) (wil := wil) (mov := mov) (bk := bk) (bh := bh) (kept := kept) hth (by omega) hI hW hL hf hE
        rw [if_pos c4, if_neg (show ¬ nn 1 < a1 from Int32.not_lt.mpr c4), if_neg (show ¬ (1 : Int32) = 0 by decide), hin, bnd0_s, m1, bnd17_s, m2, bnd11_s]
        unfold f12_mending_J117
        rcases m3 with ⟨rfl, rfl, rfl⟩ | ⟨q, hq, rfl, rfl, ⟨rfl, rfl⟩ | ⟨h, hh, rfl, rfl⟩⟩
        · rw [if_neg (show ¬ (0 : Int32) ≤ -2 by decide)]
          by_cases t0 : a1 = 0
          · rw [if_pos t0, if_pos t0]
            exact ⟨_, _, _, _, _, _, _, _, _, _, _, _, _, _, _, _, _, _, _, _, _, _, _, _, _, _, rfl, rfl⟩
          · rw [if_neg t0, if_neg t0]
            exact ⟨_, _, _, _, _, _, _, _, _, _, _, _, _, _, _, _, _, _, _, _, _, _, _, _, _, _, rfl, rfl⟩
        · rw [if_pos (n0le (show q < 2147483648 by omega)), if_pos rfl]
          by_cases t0 : a1 = 0
          · rw [if_pos t0, if_pos t0]
            exact ⟨_, _, _, _, _, _, _, _, _, _, _, _, _, _, _, _, _, _, _, _, _, _, _, _, _, _, rfl, rfl⟩
          · rw [if_neg t0, if_neg t0]
            exact ⟨_, _, _, _, _, _, _, _, _, _, _, _, _, _, _, _, _, _, _, _, _, _, _, _, _, _, rfl, rfl⟩
        · rw [if_pos (n0le (show q < 2147483648 by omega)), if_neg (show ¬ nn h = 9999 from nne (b := 9999) (by omega) (by omega) (by omega))]
          by_cases t0 : a1 = 0
          · rw [if_pos t0, if_pos t0]
            exact ⟨_, _, _, _, _, _, _, _, _, _, _, _, _, _, _, _, _, _, _, _, _, _, _, _, _, _, rfl, rfl⟩
          · rw [if_neg t0, if_neg t0]
            exact ⟨_, _, _, _, _, _, _, _, _, _, _, _, _, _, _, _, _, _, _, _, _, _, _, _, _, _, rfl, rfl⟩
      · rw [if_neg c4, if_pos (show nn 1 < a1 from Int32.not_le.mp c4), if_pos rfl]; exact hno
end
