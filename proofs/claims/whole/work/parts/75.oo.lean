/-! a ladder's text: a clause -/
section
variable {b : Nat → Nat} {bytes tape : Nat → Int32} {n i j s e R P bb : Nat} {rd : Nat → Int32} {rungs people sbr : Int32} {room strength weight told srg swt : Nat → Int32}
theorem Tk.isAt {kind sign : Int32} {c : Nat} (hx : TX b bytes tape n) (ht : Tk b n s kind sign e) (hc : c < 256) (hl : isLe c = false) (hd : isDi c = false) (h60 : c ≠ 60) (h62 : c ≠ 62) : (s < n ∧ b s = c ∧ e = s + 1 ∧ f9_isAt kind sign (nn c) = some 1) ∨ ((s < n → b s ≠ c) ∧ f9_isAt kind sign (nn c) = some 0) := by
  unfold f9_isAt
  rcases ht.2 with ⟨h1, h2, rfl⟩ | ⟨h1, h2, h3, h4, h5⟩
  · rw [if_neg (show ¬ (0 : Int32) = 3 by decide)]
    exact Or.inr ⟨fun h => by omega, rfl⟩
  · rcases h5 with ⟨g1, rfl, g3, g4⟩ | ⟨g1, rfl, g3, g4⟩ | ⟨g1, g2, rfl, g4⟩
    · rw [if_neg (show ¬ (1 : Int32) = 3 by decide)]
      exact Or.inr ⟨fun _ h => (by rw [h, hl] at g1; cases g1), rfl⟩
    · rw [if_neg (show ¬ (2 : Int32) = 3 by decide)]
      exact Or.inr ⟨fun _ h => (by rw [h, hd] at g1; cases g1), rfl⟩
    · have hb := (hx.2 s h1).1
      rw [if_pos rfl]
      rcases g4 with ⟨q1, q2, q3, rfl, q5⟩ | ⟨q1, rfl, q5⟩
      · rw [if_neg (nne (by omega) (by omega) (by omega))]
        exact Or.inr ⟨fun _ h => by omega, rfl⟩
      · by_cases c1 : b s = c
        · rw [if_pos (by rw [c1])]
          exact Or.inl ⟨h1, c1, q5, rfl⟩
        · rw [if_neg (nne (by omega) (by omega) c1)]
          exact Or.inr ⟨fun _ => c1, rfl⟩
theorem r_clause {m : Nat} {kind sign fault num made deep opd tk0 : Int32} {sgn len cl cls opn : Nat → Int32} (hm : m ≤ 40) (hmR : m = 0 ↔ R = 0) (hx : TX b bytes tape n) (h : Rn isSp b n i s) (ht : Tk b n s kind sign e) (hL : LdR R P bb rd rungs people sbr room strength weight told srg swt) :
    (∃ s1 k1 g1 e1 i1 num1 rd1 R1 P1 bb1 ro1 st1 w1 t1 sr1 sw1, m < 40 ∧ f2_readClause bytes (nn n) kind sign fault (nn s) (nn e) rungs people sbr room strength weight told srg swt (nn m) = some (1, k1, g1, fault, nn s1, nn e1, nn R1, nn P1, nn bb1, ro1, st1, w1, t1, sr1, sw1) ∧ f12_clauseHere tape (nn n) sgn len cl cls rd (nn i) 0 num 6 made deep (nn m) opn opd = some (1, sgn, len, cl, cls, rd1, nn i1, 0, num1, made, deep, nn (m + 1), opn, opd) ∧ Rn isSp b n i1 s1 ∧ Tk b n s1 k1 g1 e1 ∧ 0 < R1 ∧ LdR R1 P1 bb1 rd1 (nn R1) (nn P1) (nn bb1) ro1 st1 w1 t1 sr1 sw1) ∨
    (∃ (w : Nat) (k1 g1 st1 sp1 ru1 pe1 sb1 : Int32) (ro1 tr1 w1 t1 sr1 sw1 rd1 : Nat → Int32) (nx1 num1 li1 : Int32), 0 < w ∧ w < 5000 ∧ f2_readClause bytes (nn n) kind sign fault (nn s) (nn e) rungs people sbr room strength weight told srg swt (nn m) = some (0, k1, g1, nn w, st1, sp1, ru1, pe1, sb1, ro1, tr1, w1, t1, sr1, sw1) ∧ f12_clauseHere tape (nn n) sgn len cl cls rd (nn i) 0 num 6 made deep (nn m) opn opd = some (0, sgn, len, cl, cls, rd1, nx1, nn w, num1, made, deep, li1, opn, opd)) := by
  have hLL := hL
  obtain ⟨h1, h2, h3, h4, h5, h6, h7, h8, h9, h10, h11, h12, h13, h14, h15, h16, h17⟩ := hL
  have hs := ht.se
  have hn := hx.1
  unfold f2_readClause f12_clauseHere
  rw [m_see hx h, bnd2_s, if_pos (show (6 : Int32) = 6 from rfl)]
  unfold f12_clauseHere_J24
  rw [if_neg (show ¬ (1 : Int32) = 0 by decide)]
  have bad : ∀ q, q < 5 → 0 < 1 + 8 * s + q ∧ 1 + 8 * s + q < 5000 := fun q hq => by omega
  rcases r_row (i := 0) (by decide) hx ht with ⟨k, k1, rfl, k3, k4, k5, k6⟩ | ⟨k1, k2⟩
  · have hk4 : k < 4 := k1
    rw [k5, bnd1_s, if_neg (nn_ne_m1 (by omega)), m_ladWord k6 h.mid, bnd2_s, if_pos hk4, if_neg (show ¬ (1 : Int32) = 0 by decide)]
    unfold f12_clauseHere_J56
    rw [if_neg (show ¬ (1 : Int32) = 0 by decide)]
    unfold f12_clauseHere_J71
    have j51 : f2_readClause_J51 1 sign fault (nn s) (nn e) rungs people sbr room strength weight told srg swt = some (0, 1, sign, nn (1 + 8 * s + 4), nn s, nn e, rungs, people, sbr, room, strength, weight, told, srg, swt) := by
      unfold f2_readClause_J51
      rw [show f9_refuse fault (nn s) 4 = _ from c_refuse fault s 4, bnd2_s, if_pos (Or.inl rfl)]
    have f4 : f12_fails 0 4 (nn s) = some (0, nn (1 + 8 * s + 4)) := m_fails s 4
    by_cases cm : m = 40
    · right
      subst cm
      rw [if_pos (show (40 : Int32) ≤ nn 40 from Int32.le_refl _), j51, if_pos (show nn 40 = 40 from rfl), f4, bnd2_s, if_pos (Or.inl rfl)]
      exact ⟨_, _, _, _, _, _, _, _, _, _, _, _, _, _, _, _, _, _, (bad 4 (by decide)).1, (bad 4 (by decide)).2, rfl, rfl⟩
    · rw [if_neg (show ¬ (40 : Int32) ≤ nn m from nle (a := 40) (by decide) (by omega) (by omega)), if_neg (show ¬ nn m = 40 from nne (b := 40) (by omega) (by decide) cm), nn_succ, lt_df, if_neg (show ¬ (1 : Int32) = 0 by decide)]
      unfold f12_ladderLineHere
      have hsp := h.mid
      obtain ⟨s1, k1', g1, e1, t1, t2, t3⟩ := next_tk (kind := 1) (sign := sign) (nn s) hx hs.2.1
      have cmR : m < 40 := by omega
      rcases (show k = 0 ∨ ¬ k = 0 by omega) with rfl | hk0
      · rw [cw0_0, (k6 0 (by decide) s hsp).1 rfl, bnd2_s, if_neg (show ¬ (1 : Int32) = 0 by decide)]
        by_cases c0 : m = 0
        · have hR0 := hmR.mp c0
          subst c0 hR0
          rw [if_pos (show nn 0 = 0 from rfl)]
          unfold f2_readClause_J39
          rw [if_pos (show nn 0 = 0 from rfl)]
          unfold f2_readClause_J48
          rw [if_pos (show (1 : Int32) = 1 from rfl), if_neg (show ¬ nn 0 = 3 by decide)]
          unfold f2_readClause_J82
          rw [t2, bnd4_s, if_pos (show Int32.toInt (nn 0) = 0 by decide)]
          rcases r_rungs (fault := fault) (num := num) (a1 := nn s) hx k4 t1 t3 hLL with ⟨v, s2, k2, g2, e2, i2, num2, x1, x2, x3, x4, x5, x6⟩ | ⟨w, k2, g2, st2, sp2, ru2, rd2, nx2, num2, x1, x2, x3, x4⟩
          · left
            rw [x1, bnd7_s, if_pos (Or.inr rfl), x2, bnd5_s, if_pos (Or.inr rfl), bnd5_s, if_pos (Or.inr rfl)]
            rw [h6, h7] at x6
            rw [h6, h7]
            exact ⟨s2, k2, g2, e2, i2, num2, _, v, P, bb, room, strength, weight, told, srg, swt, by omega, rfl, rfl, x3, x4, x5, x6⟩
          · right
            rw [x3, bnd7_s, if_pos (Or.inl rfl), x4, bnd5_s, if_pos (Or.inl rfl), bnd5_s, if_pos (Or.inl rfl)]
            exact ⟨w, _, _, _, _, _, _, _, _, _, _, _, _, _, _, _, _, _, x1, x2, rfl, rfl⟩
        · right
          have hR0 : 0 < R := by
            rcases Nat.eq_zero_or_pos R with q | q
            · exact absurd (hmR.mpr q) c0
            · exact q
          rw [if_neg (show ¬ nn m = 0 from nne (b := 0) (by omega) (by decide) c0)]
          unfold f2_readClause_J39
          rw [if_pos (show nn 0 = 0 from rfl)]
          unfold f2_readClause_J48
          rw [if_neg (show ¬ (0 : Int32) = 1 by decide), j51]
          unfold f12_isLadderHere
          rw [h8, if_neg (show ¬ nn R ≤ 0 from nle (b := 0) (by omega) (by decide) (by omega)), f4, bnd2_s, if_pos (Or.inl rfl), bnd5_s, if_pos (Or.inl rfl), bnd5_s, if_pos (Or.inl rfl)]
          exact ⟨_, _, _, _, _, _, _, _, _, _, _, _, _, _, _, _, _, _, (bad 4 (by decide)).1, (bad 4 (by decide)).2, rfl, rfl⟩
      · have hk0n : ¬ nn k = 0 := nne (b := 0) (by omega) (by decide) hk0
        rw [cw0_0, (k6 0 (by decide) s hsp).2 (by omega), bnd2_s, if_pos rfl, h8]
        by_cases c0 : m = 0
        · right
          have hR0 := hmR.mp c0
          subst c0 hR0
          rw [if_pos (show nn 0 = 0 from rfl), if_pos (show nn 0 = 0 from rfl)]
          unfold f2_readClause_J39
          rw [if_neg hk0n]
          unfold f2_readClause_J48
          rw [if_neg (show ¬ (1 : Int32) = 0 by decide), j51, f4, bnd2_s, if_pos (Or.inl rfl), bnd5_s, if_pos (Or.inl rfl)]
          exact ⟨_, _, _, _, _, _, _, _, _, _, _, _, _, _, _, _, _, _, (bad 4 (by decide)).1, (bad 4 (by decide)).2, rfl, rfl⟩
        · have hR0 : 0 < R := by
            rcases Nat.eq_zero_or_pos R with q | q
            · exact absurd (hmR.mpr q) c0
            · exact q
          rw [if_neg (show ¬ nn m = 0 from nne (b := 0) (by omega) (by decide) c0), if_neg (show ¬ nn R = 0 from nne (b := 0) (by omega) (by decide) (by omega))]
          unfold f2_readClause_J39
          rw [if_neg hk0n]
          unfold f2_readClause_J48
          rw [if_pos (show (0 : Int32) = 0 from rfl)]
          rcases (show k = 1 ∨ k = 2 ∨ k = 3 by omega) with rfl | rfl | rfl
          · rw [if_neg (show ¬ nn 1 = 3 by decide)]
            unfold f2_readClause_J82
            rw [t2, bnd4_s, if_neg (show ¬ Int32.toInt (nn 1) = 0 by decide), if_pos (show Int32.toInt (nn 1) = 1 by decide)]
            rw [cw0_1, (k6 1 (by decide) s hsp).1 rfl, bnd2_s, if_neg (show ¬ (1 : Int32) = 0 by decide)]
            rcases r_rungL (fault := fault) (num := num) hR0 hx k4 t1 t3 hLL with ⟨s2, k2, g2, e2, i2, num2, rd2, ro2, tr2, x1, x2, x3, x4, x5⟩ | ⟨w, k2, g2, st2, sp2, ro2, tr2, rd2, nx2, num2, x1, x2, x3, x4⟩
            · left
              rw [x1, bnd8_s, if_pos (Or.inr rfl), x2, bnd5_s, if_pos (Or.inr rfl), bnd5_s, if_pos (Or.inr rfl)]
              rw [h5, h6, h7] at x5
              rw [h5, h6, h7]
              exact ⟨s2, k2, g2, e2, i2, num2, _, R, P, bb, ro2, tr2, weight, told, srg, swt, cmR, rfl, rfl, x3, x4, hR0, x5⟩
            · right
              rw [x3, bnd8_s, if_pos (Or.inl rfl), x4, bnd5_s, if_pos (Or.inl rfl), bnd5_s, if_pos (Or.inl rfl)]
              exact ⟨w, _, _, _, _, _, _, _, _, _, _, _, _, _, _, _, _, _, x1, x2, rfl, rfl⟩
          · rw [if_neg (show ¬ nn 2 = 3 by decide)]
            unfold f2_readClause_J82
            rw [t2, bnd4_s, if_neg (show ¬ Int32.toInt (nn 2) = 0 by decide), if_neg (show ¬ Int32.toInt (nn 2) = 1 by decide), if_pos (show Int32.toInt (nn 2) = 2 by decide)]
            rw [cw0_1, (k6 1 (by decide) s hsp).2 (by decide), bnd2_s, if_pos rfl, cw0_2, (k6 2 (by decide) s hsp).1 rfl, bnd2_s, if_neg (show ¬ (1 : Int32) = 0 by decide)]
            rcases r_brokenL (fault := fault) (num := num) hR0 hx k4 t1 t3 hLL with ⟨s2, k2, g2, e2, i2, num2, rd2, bb2, x1, x2, x3, x4, x5⟩ | ⟨w, k2, g2, st2, sp2, sb2, rd2, nx2, num2, x1, x2, x3, x4⟩
            · left
              rw [x1, bnd7_s, if_pos (Or.inr rfl), x2, bnd5_s, if_pos (Or.inr rfl), bnd5_s, if_pos (Or.inr rfl)]
              rw [h5, h6] at x5
              rw [h5, h6]
              exact ⟨s2, k2, g2, e2, i2, num2, _, R, P, bb2, room, strength, weight, told, srg, swt, cmR, rfl, rfl, x3, x4, hR0, x5⟩
            · right
              rw [x3, bnd7_s, if_pos (Or.inl rfl), x4, bnd5_s, if_pos (Or.inl rfl), bnd5_s, if_pos (Or.inl rfl)]
              exact ⟨w, _, _, _, _, _, _, _, _, _, _, _, _, _, _, _, _, _, x1, x2, rfl, rfl⟩
          · rw [if_pos (show nn 3 = 3 from rfl)]
            rw [cw0_1, (k6 1 (by decide) s hsp).2 (by decide), bnd2_s, if_pos rfl, cw0_2, (k6 2 (by decide) s hsp).2 (by decide), bnd2_s, if_pos rfl]
            by_cases cP : P = 4
            · right
              have : f12_isPersonHere tape (nn n) rd (nn s) 0 num (nn s) = some (0, rd, nn s, nn (1 + 8 * s + 4), num) := by
                unfold f12_isPersonHere
                rw [h9, if_pos (show nn P = 4 by rw [cP]; rfl), f4, bnd2_s, if_pos (Or.inl rfl)]
              rw [h6, if_neg (show ¬ nn P < 4 from nlt (b := 4) (by omega) (by decide) (by omega)), show f9_refuse fault (nn s) 4 = _ from c_refuse fault s 4, bnd2_s, if_pos (Or.inl rfl), this, bnd5_s, if_pos (Or.inl rfl), bnd5_s, if_pos (Or.inl rfl)]
              exact ⟨_, _, _, _, _, _, _, _, _, _, _, _, _, _, _, _, _, _, (bad 4 (by decide)).1, (bad 4 (by decide)).2, rfl, rfl⟩
            · rw [if_pos (show people < 4 by rw [h6]; exact nltT (b := 4) (by omega) (by decide) (by omega))]
              unfold f2_readClause_J82
              rw [t2, bnd4_s, if_neg (show ¬ Int32.toInt (nn 3) = 0 by decide), if_neg (show ¬ Int32.toInt (nn 3) = 1 by decide), if_neg (show ¬ Int32.toInt (nn 3) = 2 by decide)]
              rcases r_personL (fault := fault) (num := num) (a1 := nn s) hR0 (by omega) hx k4 t1 t3 hLL with ⟨s2, k2, g2, e2, i2, num2, rd2, w2, t2', sr2, sw2, x1, x2, x3, x4, x5⟩ | ⟨w, k2, g2, st2, sp2, pp2, w2, t2', sr2, sw2, rd2, nx2, num2, x1, x2, x3, x4⟩
              · left
                rw [x1, bnd11_s, if_pos (Or.inr rfl), x2, bnd5_s, if_pos (Or.inr rfl), bnd5_s, if_pos (Or.inr rfl)]
                rw [h5, h7] at x5
                rw [h5, h7]
                exact ⟨s2, k2, g2, e2, i2, num2, _, R, P + 1, bb, room, strength, w2, t2', sr2, sw2, cmR, rfl, rfl, x3, x4, hR0, x5⟩
              · right
                rw [x3, bnd11_s, if_pos (Or.inl rfl), x4, bnd5_s, if_pos (Or.inl rfl), bnd5_s, if_pos (Or.inl rfl)]
                exact ⟨w, _, _, _, _, _, _, _, _, _, _, _, _, _, _, _, _, _, x1, x2, rfl, rfl⟩
  · right
    rw [k1, bnd1_s, if_pos rfl, m_ladWord (k2 4 (by decide)) h.mid, bnd2_s, if_neg (show ¬ 4 < 4 by decide), if_pos rfl]
    unfold f12_clauseHere_J49
    rw [show f9_refuse fault (nn s) 0 = _ from c_refuse fault s 0, bnd2_s, if_pos (Or.inl rfl), show f12_fails 0 0 (nn s) = _ from m_fails s 0, bnd2_s, if_pos (Or.inl rfl)]
    exact ⟨_, _, _, _, _, _, _, _, _, _, _, _, _, _, _, _, _, _, (bad 0 (by decide)).1, (bad 0 (by decide)).2, rfl, rfl⟩
end
