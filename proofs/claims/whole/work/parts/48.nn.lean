/-! goods handed on -/
section
variable {S : Nat → Int32} {R P qn qp : Nat} {hour broken rungs people rc fo hb bk tp th tb : Int32} {rung grip want slips worn room strength weight told wl de wil mov sign clause clauses tr tg tw ts tk kept : Nat → Int32} {st wd : Nat → Int64} {rls : Nat → Option Nat}
theorem r_goodsA_n (hI : IV R P S) (hW : RWd S hour broken rung grip want slips worn) (hL : RLd R P S rungs people room strength weight told) (hf : fo < 0) (a1 a2 : Int32) : ∃ v hb1 wl1 de1 h1 b1 rg1 gr1 wt1 sl1 wn1 q1 st1 tp1 wd1 wi1 mo1 br1 kp1, f11_goods_n rls rc fo hour broken rung grip want slips worn rungs people room strength weight told hb wl de th tb tr tg tw ts tk qp qn a1 a2 = some (v, hb1, wl1, de1, h1, b1, rg1, gr1, wt1, sl1, wn1, q1) ∧ f12_goods sign clause clauses st tp wd S fo wil mov bk kept a1 a2 = some (v, st1, tp1, wd1, S, wi1, mo1, br1, kp1) := by
  have hR9 := hI.1.1
  have hin : f11_inForce_n rls rc fo = some () := by
    unfold f11_inForce_n f11_inForce_n_J29
    rw [if_pos hf]
  have hno : ∃ v hb1 wl1 de1 h1 b1 rg1 gr1 wt1 sl1 wn1 q1 st1 tp1 wd1 wi1 mo1 br1 kp1, some ((-1 : Int32), hb, wl, de, th, tb, tr, tg, tw, ts, tk, qp) = some (v, hb1, wl1, de1, h1, b1, rg1, gr1, wt1, sl1, wn1, q1) ∧ some ((-1 : Int32), st, tp, wd, S, wil, mov, bk, kept) = some (v, st1, tp1, wd1, S, wi1, mo1, br1, kp1) := ⟨-1, hb, wl, de, th, tb, tr, tg, tw, ts, tk, qp, st, tp, wd, wil, mov, bk, kept, rfl, rfl⟩
  unfold f11_goods_n f12_goods
  have hpe : ∀ x, f11_isRung rungs x = f11_isRung (nn R) x := fun x => by rw [hL.1]
  rw [hpe, hpe]
  rcases p_isRung hI a1 with ⟨p, hp, rfl, e1, e2⟩ | ⟨-, e1, e2⟩
  · rw [e1, e2, bnd1_s, bnd1_s, if_neg (show ¬ (1 : Int32) = 0 by decide), if_neg (show ¬ (1 : Int32) = 0 by decide)]
    rcases p_isRung hI a2 with ⟨q, hq, rfl, k1, k2⟩ | ⟨-, k1, k2⟩
    · obtain ⟨v1, hb1, wl1, de1, h1, b1, rg1, gr1, wt1, sl1, wn1, st1, tp1, wd1, S1, wi1, mo1, bk1, m1, m2, m3⟩ := r_goods_n (hb := hb) (wl := wl) (de := de) (th := th) (tb := tb) (tr := tr) (tg := tg) (tw := tw) (ts := ts) (tk := tk) (st := st) (tp := tp) (wd := wd) (wil := wil) (mov := mov) (bk := bk) (sign := sign) (clause := clause) (clauses := clauses) hp hq hI hW hL hf
      have hb : ov 62 (ov 62 S kept) S1 = S := ov_back (fun i hi => m3.2.2.2 i hi)
      rw [k1, k2, bnd1_s, bnd1_s, if_neg (show ¬ (1 : Int32) = 0 by decide), if_neg (show ¬ (1 : Int32) = 0 by decide), hin, bnd0_s, m1, bnd11_s]
      unfold f12_goods_J36
      by_cases e : nn p = nn q
      · rw [if_pos e] at m2
        rw [if_pos e, m_keeps, bnd1_s, m2, bnd8_s, m_laysBack, bnd1_s, hb]
        exact ⟨_, _, _, _, _, _, _, _, _, _, _, _, _, _, _, _, _, _, _, rfl, rfl⟩
      · rw [if_neg e] at m2
        rw [if_neg e, m_keeps, bnd1_s, m2, bnd8_s, m_laysBack, bnd1_s, hb]
        exact ⟨_, _, _, _, _, _, _, _, _, _, _, _, _, _, _, _, _, _, _, rfl, rfl⟩
    · rw [k1, k2, bnd1_s, bnd1_s, if_pos rfl, if_pos rfl]; exact hno
  · rw [e1, e2, bnd1_s, bnd1_s, if_pos rfl, if_pos rfl]; exact hno
theorem r_goodsA_r {nc ns nt pu f : Nat} {code sumEnd testEnd : Nat → Int32} {wo stack : Nat → Int64} {top : Int32} (hI : IV R P S) (hW : RWd S hour broken rung grip want slips worn) (hL : RLd R P S rungs people room strength weight told) (hf6 : f < 6) (hfo : fo = nn f) (hrc : ¬ rc ≤ fo) (hru : rls f = some pu) (hE : REv nc code ns sumEnd nt testEnd sign clause clauses fo) (a1 a2 : Int32) : ∃ v hb1 wl1 de1 wo1 h1 b1 rg1 gr1 wt1 sl1 wn1 sk1 tq1 q1 st1 tp1 wd1 wi1 mo1 br1 kp1, f11_goods_r rls rc fo hour broken rung grip want slips worn rungs people room strength weight told hb wl de wo th tb tr tg tw ts tk nc code ns sumEnd nt testEnd stack top pu qp qn a1 a2 = some (v, hb1, wl1, de1, wo1, h1, b1, rg1, gr1, wt1, sl1, wn1, sk1, tq1, q1) ∧ f12_goods sign clause clauses st tp wd S fo wil mov bk kept a1 a2 = some (v, st1, tp1, wd1, S, wi1, mo1, br1, kp1) := by
  have hR9 := hI.1.1
  have hf : ¬ fo < 0 := by rw [hfo]; exact nlt0 (by omega)
  have hin : f11_inForce_r rls rc fo pu = some () := by
    unfold f11_inForce_r
    rw [if_neg hf, if_neg hrc, hfo, nn_nat (show f < 2147483648 by omega), if_neg (ng (by omega) (by omega)), hru, if_neg (fun h => h rfl)]
  have hno : ∃ v hb1 wl1 de1 wo1 h1 b1 rg1 gr1 wt1 sl1 wn1 sk1 tq1 q1 st1 tp1 wd1 wi1 mo1 br1 kp1, some ((-1 : Int32), hb, wl, de, wo, th, tb, tr, tg, tw, ts, tk, stack, top, qp) = some (v, hb1, wl1, de1, wo1, h1, b1, rg1, gr1, wt1, sl1, wn1, sk1, tq1, q1) ∧ some ((-1 : Int32), st, tp, wd, S, wil, mov, bk, kept) = some (v, st1, tp1, wd1, S, wi1, mo1, br1, kp1) := ⟨-1, hb, wl, de, wo, th, tb, tr, tg, tw, ts, tk, stack, top, qp, st, tp, wd, wil, mov, bk, kept, rfl, rfl⟩
  unfold f11_goods_r f12_goods
  have hpe : ∀ x, f11_isRung rungs x = f11_isRung (nn R) x := fun x => by rw [hL.1]
  rw [hpe, hpe]
  rcases p_isRung hI a1 with ⟨p, hp, rfl, e1, e2⟩ | ⟨-, e1, e2⟩
  · rw [e1, e2, bnd1_s, bnd1_s, if_neg (show ¬ (1 : Int32) = 0 by decide), if_neg (show ¬ (1 : Int32) = 0 by decide)]
    rcases p_isRung hI a2 with ⟨q, hq, rfl, k1, k2⟩ | ⟨-, k1, k2⟩
    · obtain ⟨v1, hb1, wl1, de1, wo1, h1, b1, rg1, gr1, wt1, sl1, wn1, sk1, tq1, st1, tp1, wd1, S1, wi1, mo1, bk1, m1, m2, m3⟩ := r_goods (hb := hb) (wl := wl) (de := de) (wo := wo) (stack := stack) (top := top) (th := th) (tb := tb) (tr := tr) (tg := tg) (tw := tw) (ts := ts) (tk := tk) (st := st) (tp := tp) (wd := wd) (wil := wil) (mov := mov) (bk := bk) hp hq hI hW hL hf hE
      have hb : ov 62 (ov 62 S kept) S1 = S := ov_back (fun i hi => m3.2.2.2 i hi)
      rw [k1, k2, bnd1_s, bnd1_s, if_neg (show ¬ (1 : Int32) = 0 by decide), if_neg (show ¬ (1 : Int32) = 0 by decide), hin, bnd0_s, m1, bnd14_s]
      unfold f12_goods_J36
      by_cases e : nn p = nn q
      · rw [if_pos e] at m2
        rw [if_pos e, m_keeps, bnd1_s, m2, bnd8_s, m_laysBack, bnd1_s, hb]
        exact ⟨_, _, _, _, _, _, _, _, _, _, _, _, _, _, _, _, _, _, _, _, _, _, rfl, rfl⟩
      · rw [if_neg e] at m2
        rw [if_neg e, m_keeps, bnd1_s, m2, bnd8_s, m_laysBack, bnd1_s, hb]
        exact ⟨_, _, _, _, _, _, _, _, _, _, _, _, _, _, _, _, _, _, _, _, _, _, rfl, rfl⟩
    · rw [k1, k2, bnd1_s, bnd1_s, if_pos rfl, if_pos rfl]; exact hno
  · rw [e1, e2, bnd1_s, bnd1_s, if_pos rfl, if_pos rfl]; exact hno
end
