/-! an hour by hand -/
section
variable {S S' w : Nat → Int32} {R P c nx pa qn qp : Nat} {hour broken rungs people : Int32} {rung grip want slips worn room strength weight told : Nat → Int32} {ph pb : Nat → Int32} {pr pg pw ps pk : Nat → Nat → Int32} {pst rls : Nat → Option Nat}
theorem hr_lt {h : Nat} (hh : h < 1000) : (nn h < 999 ∧ ¬ nn h = 999 ∧ h < 999) ∨ (¬ nn h < 999 ∧ nn h = 999) := by
  by_cases e : h < 999
  · exact Or.inl ⟨nltT (b := 999) (by omega) (by omega) e, nne (b := 999) (by omega) (by omega) (by omega), e⟩
  · have : h = 999 := by omega
    subst this
    exact Or.inr ⟨by decide, rfl⟩
theorem r_hour_n {rc fo hb0 bk0 tp : Int32} {will0 deed0 wil0 moved0 sign clause clauses : Nat → Int32} {st wd : Nat → Int64} (hN : RPa R P S w c nx ph pb pr pg pw ps pk) (hI : IV R P S) (hW : RWd S hour broken rung grip want slips worn) (hL : RLd R P S rungs people room strength weight told) (hp : pst nx = some pa) (hh : ∃ h, h < 1000 ∧ hour = nn h) (hf : fo < 0) : ∃ v nx' c' ah ab ar ag aw as_ ak q1 S' w' br will' deed' hour' b' rung' grip' slips' worn' wil' moved' br2, f11_hour_n rls rc pst (nn nx) (nn c) hb0 will0 deed0 fo hour broken rung grip want slips worn rungs people room strength weight told (ph nx) (pb nx) (pr nx) (pg nx) (pw nx) (ps nx) (pk nx) pa qp qn = some (v, nn nx', nn c', br, will', deed', hour', b', rung', grip', slips', worn', ah, ab, ar, ag, aw, as_, ak, q1) ∧ f12_hour sign clause clauses st tp wd S fo wil0 moved0 bk0 w (nn c) = some (v, st, tp, wd, S', wil', moved', br2, w', nn c') ∧ RWd S' hour' b' rung' grip' want slips' worn' ∧ IV R P S' ∧ St S S' ∧ RPa R P S' w' c' nx' (upd ph nx ah) (upd pb nx ab) (updF pr nx ar) (updF pg nx ag) (updF pw nx aw) (updF ps nx as_) (updF pk nx ak) ∧ KQ c nx qn qp c' nx' q1 hour (ph nx) ah ∧ ∃ h, h < 1000 ∧ hour' = nn h := by
  obtain ⟨h, hh1, rfl⟩ := hh
  have hno : ∃ v nx' c' ah ab ar ag aw as_ ak q1 S' w' br will' deed' hour' b' rung' grip' slips' worn' wil' moved' br2, some ((-1 : Int32), nn nx, nn c, hb0, will0, deed0, nn h, broken, rung, grip, slips, worn, ph nx, pb nx, pr nx, pg nx, pw nx, ps nx, pk nx, qp) = some (v, nn nx', nn c', br, will', deed', hour', b', rung', grip', slips', worn', ah, ab, ar, ag, aw, as_, ak, q1) ∧ some ((-1 : Int32), st, tp, wd, S, wil0, moved0, bk0, w, nn c) = some (v, st, tp, wd, S', wil', moved', br2, w', nn c') ∧ RWd S' hour' b' rung' grip' want slips' worn' ∧ IV R P S' ∧ St S S' ∧ RPa R P S' w' c' nx' (upd ph nx ah) (upd pb nx ab) (updF pr nx ar) (updF pg nx ag) (updF pw nx aw) (updF ps nx as_) (updF pk nx ak) ∧ KQ c nx qn qp c' nx' q1 (nn h) (ph nx) ah ∧ ∃ h, h < 1000 ∧ hour' = nn h :=
    ⟨-1, nx, c, ph nx, pb nx, pr nx, pg nx, pw nx, ps nx, pk nx, qp, S, w, hb0, will0, deed0, nn h, broken, rung, grip, slips, worn, wil0, moved0, bk0, rfl, rfl, hW, hI, St.rf, hN.same, Or.inl ⟨rfl, rfl, rfl, rfl⟩, h, hh1, rfl⟩
  unfold f11_hour_n f12_hour
  rcases p_has hI with ⟨h0, e1, e2⟩ | ⟨h0, e1, e2⟩
  · rw [hL.1, e1, e2, bnd1_s, bnd1_s, if_pos rfl, if_pos rfl]; exact hno
  · have hk : f11_hasLadder rungs = some 1 := by rw [hL.1]; exact e1
    have h2 : S 2 = nn h := hW.1.symm
    rw [hk, e2, bnd1_s, bnd1_s, if_neg (show ¬ (1 : Int32) = 0 by decide), if_neg (show ¬ (1 : Int32) = 0 by decide)]
    rcases hr_lt hh1 with ⟨c1, c2, c3⟩ | ⟨c1, c2⟩
    · obtain ⟨w', c', nx', hq, k1, k2, hP⟩ := r_remember hN hI hW hp
      obtain ⟨v, br, will', deed', b', rung', grip', slips', worn', S', wil', moved', m1, m2, m3, m4, m5, m6⟩ := r_spend_n (hb0 := hb0) (bk0 := bk0) (tp := tp) (will0 := will0) (deed0 := deed0) (wil0 := wil0) (moved0 := moved0) (sign := sign) (clause := clause) (clauses := clauses) (st := st) (wd := wd) hI hW hL hf
      have hfo : f11_inForce_n rls rc fo = some () := by
        unfold f11_inForce_n f11_inForce_n_J29
        rw [if_pos hf]
      rw [if_pos c1, if_neg (show ¬ S 2 = 999 by rw [h2]; exact c2), k1, bnd9_s, hfo, bnd0_s, m1, bnd10_s, k2, bnd2_s, m2, bnd8_s]
      exact ⟨v, nx', c', _, _, _, _, _, _, _, qn, S', w', br, will', deed', _, b', rung', grip', slips', worn', wil', moved', br, rfl, rfl, m3, m4, m5, hP.st m5, Or.inr ⟨rfl, rfl, hq⟩, h + 1, by omega, nn_succ h⟩
    · rw [if_neg c1, if_pos (show S 2 = 999 by rw [h2]; exact c2)]; exact hno
theorem r_hour_r {nc ns nt pu f : Nat} {rc fo hb0 bk0 top tp : Int32} {will0 deed0 wil0 moved0 code sumEnd testEnd sign clause clauses : Nat → Int32} {words stack st wd : Nat → Int64} (hN : RPa R P S w c nx ph pb pr pg pw ps pk) (hI : IV R P S) (hW : RWd S hour broken rung grip want slips worn) (hL : RLd R P S rungs people room strength weight told) (hp : pst nx = some pa) (hh : ∃ h, h < 1000 ∧ hour = nn h) (hf6 : f < 6) (hfo : fo = nn f) (hrc : ¬ rc ≤ fo) (hru : rls f = some pu) (hE : REv nc code ns sumEnd nt testEnd sign clause clauses fo) : ∃ v nx' c' ah ab ar ag aw as_ ak q1 S' w' br will' deed' hour' b' rung' grip' slips' worn' wil' moved' br2 words' stack' top' st' tp' wd', f11_hour_r rls rc pst (nn nx) (nn c) hb0 will0 deed0 words fo hour broken rung grip want slips worn rungs people room strength weight told (ph nx) (pb nx) (pr nx) (pg nx) (pw nx) (ps nx) (pk nx) nc code ns sumEnd nt testEnd stack top pa pu qp qn = some (v, nn nx', nn c', br, will', deed', words', hour', b', rung', grip', slips', worn', ah, ab, ar, ag, aw, as_, ak, stack', top', q1) ∧ f12_hour sign clause clauses st tp wd S fo wil0 moved0 bk0 w (nn c) = some (v, st', tp', wd', S', wil', moved', br2, w', nn c') ∧ RWd S' hour' b' rung' grip' want slips' worn' ∧ IV R P S' ∧ St S S' ∧ RPa R P S' w' c' nx' (upd ph nx ah) (upd pb nx ab) (updF pr nx ar) (updF pg nx ag) (updF pw nx aw) (updF ps nx as_) (updF pk nx ak) ∧ KQ c nx qn qp c' nx' q1 hour (ph nx) ah ∧ ∃ h, h < 1000 ∧ hour' = nn h := by
  obtain ⟨h, hh1, rfl⟩ := hh
  have hno : ∃ v nx' c' ah ab ar ag aw as_ ak q1 S' w' br will' deed' hour' b' rung' grip' slips' worn' wil' moved' br2 words' stack' top' st' tp' wd', some ((-1 : Int32), nn nx, nn c, hb0, will0, deed0, words, nn h, broken, rung, grip, slips, worn, ph nx, pb nx, pr nx, pg nx, pw nx, ps nx, pk nx, stack, top, qp) = some (v, nn nx', nn c', br, will', deed', words', hour', b', rung', grip', slips', worn', ah, ab, ar, ag, aw, as_, ak, stack', top', q1) ∧ some ((-1 : Int32), st, tp, wd, S, wil0, moved0, bk0, w, nn c) = some (v, st', tp', wd', S', wil', moved', br2, w', nn c') ∧ RWd S' hour' b' rung' grip' want slips' worn' ∧ IV R P S' ∧ St S S' ∧ RPa R P S' w' c' nx' (upd ph nx ah) (upd pb nx ab) (updF pr nx ar) (updF pg nx ag) (updF pw nx aw) (updF ps nx as_) (updF pk nx ak) ∧ KQ c nx qn qp c' nx' q1 (nn h) (ph nx) ah ∧ ∃ h, h < 1000 ∧ hour' = nn h :=
    ⟨-1, nx, c, ph nx, pb nx, pr nx, pg nx, pw nx, ps nx, pk nx, qp, S, w, hb0, will0, deed0, nn h, broken, rung, grip, slips, worn, wil0, moved0, bk0, words, stack, top, st, tp, wd, rfl, rfl, hW, hI, St.rf, hN.same, Or.inl ⟨rfl, rfl, rfl, rfl⟩, h, hh1, rfl⟩
  unfold f11_hour_r f12_hour
  rcases p_has hI with ⟨h0, e1, e2⟩ | ⟨h0, e1, e2⟩
  · rw [hL.1, e1, e2, bnd1_s, bnd1_s, if_pos rfl, if_pos rfl]; exact hno
  · have hk : f11_hasLadder rungs = some 1 := by rw [hL.1]; exact e1
    have h2 : S 2 = nn h := hW.1.symm
    rw [hk, e2, bnd1_s, bnd1_s, if_neg (show ¬ (1 : Int32) = 0 by decide), if_neg (show ¬ (1 : Int32) = 0 by decide)]
    rcases hr_lt hh1 with ⟨c1, c2, c3⟩ | ⟨c1, c2⟩
    · obtain ⟨w', c', nx', hq, k1, k2, hP⟩ := r_remember hN hI hW hp
      have hf : ¬ fo < 0 := by rw [hfo]; exact nlt0 (by omega)
      obtain ⟨v, br, will', deed', words', b', rung', grip', slips', worn', stack', top', st', tp', wd', S', wil', moved', m1, m2, m3, m4, m5, m6⟩ := r_spend (hb0 := hb0) (bk0 := bk0) (top := top) (tp := tp) (will0 := will0) (deed0 := deed0) (wil0 := wil0) (moved0 := moved0) (words := words) (stack := stack) (st := st) (wd := wd) hI hW hL hf hE
      have hin : f11_inForce_r rls rc fo pu = some () := by
        unfold f11_inForce_r
        rw [if_neg hf, if_neg hrc, hfo, nn_nat (show f < 2147483648 by omega), if_neg (ng (by omega) (by omega)), hru, if_neg (fun h => h rfl)]
      rw [if_pos c1, if_neg (show ¬ S 2 = 999 by rw [h2]; exact c2), k1, bnd9_s, hin, bnd0_s, m1, bnd13_s, k2, bnd2_s, m2, bnd8_s]
      exact ⟨v, nx', c', _, _, _, _, _, _, _, qn, S', w', br, will', deed', _, b', rung', grip', slips', worn', wil', moved', br, words', stack', top', st', tp', wd', rfl, rfl, m3, m4, m5, hP.st m5, Or.inr ⟨rfl, rfl, hq⟩, h + 1, by omega, nn_succ h⟩
    · rw [if_neg c1, if_pos (show S 2 = 999 by rw [h2]; exact c2)]; exact hno
end
