/-! acts -/
section
variable {S S' w : Nat → Int32} {R P c nx pa qn qp : Nat} {hour broken rungs people : Int32} {rung grip want slips worn room strength weight told : Nat → Int32} {ph pb : Nat → Int32} {pr pg pw ps pk : Nat → Nat → Int32} {pst : Nat → Option Nat}
def KQ (c nx qn qp c' nx' q1 : Nat) (hour ho ah : Int32) : Prop := (q1 = qp ∧ c' = c ∧ nx' = nx ∧ ah = ho) ∨ (q1 = qn ∧ ah = hour ∧ nx' = (if 19 ≤ nx then 0 else nx + 1) ∧ ((c < 20 ∧ c' = c + 1) ∨ (c = 20 ∧ c' = 20)))
theorem updF_self {f : Nat → Nat → Int32} {i : Nat} : updF f i (f i) = f := by
  funext j
  by_cases h : j = i
  · subst h; rw [updF_at]
  · rw [updF_ne h]
theorem RPa.same (h : RPa R P S w c nx ph pb pr pg pw ps pk) : RPa R P S w c nx (upd ph nx (ph nx)) (upd pb nx (pb nx)) (updF pr nx (pr nx)) (updF pg nx (pg nx)) (updF pw nx (pw nx)) (updF ps nx (ps nx)) (updF pk nx (pk nx)) := by
  rw [upd_self, upd_self, updF_self, updF_self, updF_self, updF_self, updF_self]; exact h
theorem r_stepJ {p : Nat} (hN : RPa R P S w c nx ph pb pr pg pw ps pk) (hI : IV R P S) (hW : RWd S hour broken rung grip want slips worn) (hL : RLd R P S rungs people room strength weight told) (hp : pst nx = some pa) (hp4 : p < P) (t : Int32) : ∃ v nx' c' ah ab ar ag aw as_ ak q1 S' w' rung', f11_step_J27 broken rungs people room qp pst hour grip want slips worn pa (nn p) qn (nn nx) (nn c) rung (ph nx) (pb nx) (pr nx) (pg nx) (pw nx) (ps nx) (pk nx) (nn p) t = some (v, nn nx', nn c', rung', ah, ab, ar, ag, aw, as_, ak, q1) ∧ f12_step_J21 (nn p) S w (nn c) (nn p) t = some (v, S', w', nn c') ∧ RWd S' hour broken rung' grip want slips worn ∧ IV R P S' ∧ St S S' ∧ RPa R P S' w' c' nx' (upd ph nx ah) (upd pb nx ab) (updF pr nx ar) (updF pg nx ag) (updF pw nx aw) (updF ps nx as_) (updF pk nx ak) ∧ KQ c nx qn qp c' nx' q1 hour (ph nx) ah := by
  have hR9 := hI.1.1
  have hP4 := hI.1.2.1
  have hs := c_stepGoal hI.1 hW hL (p := p) (by omega) t
  unfold f11_step_J27 f12_step_J21
  rw [hs, bnd1_s, m_stepTo hI.1.2.2.1 hR9 hI.1.2.2.2.1 hP4 (by omega), bnd1_s]
  rcases sStep_cases hI.1.2.2.1 hR9 P p t with e | ⟨r, hr, e, hw0⟩
  · rw [e, if_pos rfl, if_neg (show ¬ (0 : Int32) ≤ -1 by decide)]
    exact ⟨-1, nx, c, ph nx, pb nx, pr nx, pg nx, pw nx, ps nx, pk nx, qp, S, w, rung, rfl, rfl, hW, hI, St.rf, hN.same, Or.inl ⟨rfl, rfl, rfl, rfl⟩⟩
  · obtain ⟨w', c', nx', hq, e1, e2, hP⟩ := r_remember hN hI hW hp
    rw [e, if_neg (nn_ne_m1 (by omega)), if_pos (n0le (by omega)), e1, bnd9_s, e2, bnd2_s, nn_nat (show p < 2147483648 by omega), if_neg (ng (by omega) (by omega)), (ix_p0 (p := p) (by omega)).1, if_neg (ix_p0 (p := p) (by omega)).2, lt_df, lt_df]
    have hst : St S (upd S (46 + 4 * p) (nn r)) := St.u_cell (by omega)
    refine ⟨nn r, nx', c', _, _, _, _, _, _, _, qn, _, w', _, rfl, rfl, hW.u_rung _, ⟨hI.1.u_cell (by omega), fun q hq => ?_, fun q hq => ?_⟩, hst, hP.st hst, Or.inr ⟨rfl, rfl, hq⟩⟩
    · by_cases e : q = p
      · subst e; exact Or.inr ⟨r, hr, upd_at, (upd_ne (by omega)).trans hw0⟩
      · rcases hI.2.1 q hq with h | ⟨r2, h2, h3, h4⟩
        · exact Or.inl ((upd_ne (by omega)).trans h)
        · exact Or.inr ⟨r2, h2, (upd_ne (by omega)).trans h3, (upd_ne (by omega)).trans h4⟩
    · obtain ⟨g, t, a, b, c, d, f⟩ := hI.2.2 q hq
      exact ⟨g, t, a, b, c, (upd_ne (by omega)).trans d, (upd_ne (by omega)).trans f⟩
theorem r_step (hN : RPa R P S w c nx ph pb pr pg pw ps pk) (hI : IV R P S) (hW : RWd S hour broken rung grip want slips worn) (hL : RLd R P S rungs people room strength weight told) (hp : pst nx = some pa) (a1 a2 : Int32) : ∃ v nx' c' ah ab ar ag aw as_ ak q1 S' w' rung', f11_step pst (nn nx) (nn c) hour broken rung grip want slips worn rungs people room (ph nx) (pb nx) (pr nx) (pg nx) (pw nx) (ps nx) (pk nx) pa qp qn a1 a2 = some (v, nn nx', nn c', rung', ah, ab, ar, ag, aw, as_, ak, q1) ∧ f12_step S w (nn c) a1 a2 = some (v, S', w', nn c') ∧ RWd S' hour broken rung' grip want slips worn ∧ IV R P S' ∧ St S S' ∧ RPa R P S' w' c' nx' (upd ph nx ah) (upd pb nx ab) (updF pr nx ar) (updF pg nx ag) (updF pw nx aw) (updF ps nx as_) (updF pk nx ak) ∧ KQ c nx qn qp c' nx' q1 hour (ph nx) ah := by
  unfold f11_step f12_step
  have hpe : f11_isPerson people a1 = f11_isPerson (nn P) a1 := by rw [hL.2.1]
  rw [hpe]
  rcases p_isPerson hI a1 with ⟨p, hp1, rfl, e1, e2⟩ | ⟨e1, e2⟩
  · rw [e1, e2, bnd1_s, bnd1_s, if_neg (show ¬ (1 : Int32) = 0 by decide), if_neg (show ¬ (1 : Int32) = 0 by decide)]
    by_cases h : a2 = 0
    · rw [if_pos h, if_pos h]; exact r_stepJ hN hI hW hL hp hp1 _
    · rw [if_neg h, if_neg h]; exact r_stepJ hN hI hW hL hp hp1 _
  · rw [e1, e2, bnd1_s, bnd1_s, if_pos rfl, if_pos rfl]
    exact ⟨-1, nx, c, ph nx, pb nx, pr nx, pg nx, pw nx, ps nx, pk nx, qp, S, w, rung, rfl, rfl, hW, hI, St.rf, hN.same, Or.inl ⟨rfl, rfl, rfl, rfl⟩⟩
theorem r_mend (hN : RPa R P S w c nx ph pb pr pg pw ps pk) (hI : IV R P S) (hW : RWd S hour broken rung grip want slips worn) (hL : RLd R P S rungs people room strength weight told) (hp : pst nx = some pa) (a1 : Int32) : ∃ v nx' c' ah ab ar ag aw as_ ak q1 S' w' b' worn', f11_mend pst (nn nx) (nn c) hour broken rung grip want slips worn rungs (ph nx) (pb nx) (pr nx) (pg nx) (pw nx) (ps nx) (pk nx) pa qp qn a1 = some (v, nn nx', nn c', b', worn', ah, ab, ar, ag, aw, as_, ak, q1) ∧ f12_mend S w (nn c) a1 = some (v, S', w', nn c') ∧ RWd S' hour b' rung grip want slips worn' ∧ IV R P S' ∧ St S S' ∧ RPa R P S' w' c' nx' (upd ph nx ah) (upd pb nx ab) (updF pr nx ar) (updF pg nx ag) (updF pw nx aw) (updF ps nx as_) (updF pk nx ak) ∧ KQ c nx qn qp c' nx' q1 hour (ph nx) ah := by
  have hR9 := hI.1.1
  unfold f11_mend f12_mend
  rw [hL.1]
  rcases p_isRung hI a1 with ⟨r, hr, rfl, e1, e2⟩ | ⟨-, e1, e2⟩
  · obtain ⟨v, n1, n2, n3⟩ := r_needs hI hW hr
    rw [e1, e2, bnd1_s, bnd1_s, if_neg (show ¬ (1 : Int32) = 0 by decide), if_neg (show ¬ (1 : Int32) = 0 by decide), n1, n2, bnd1_s, bnd1_s]
    rcases n3 with rfl | rfl
    · rw [if_pos rfl, if_pos rfl]
      exact ⟨-1, nx, c, ph nx, pb nx, pr nx, pg nx, pw nx, ps nx, pk nx, qp, S, w, broken, worn, rfl, rfl, hW, hI, St.rf, hN.same, Or.inl ⟨rfl, rfl, rfl, rfl⟩⟩
    · obtain ⟨w', c', nx', hq, k1, k2, hP⟩ := r_remember hN hI hW hp
      obtain ⟨b', worn', S', m1, m2, m3, m4, m5, m6⟩ := r_repair hI hW hr
      rw [if_neg (show ¬ (1 : Int32) = 0 by decide), if_neg (show ¬ (1 : Int32) = 0 by decide), k1, bnd9_s, k2, bnd2_s, m1, bnd2_s, m2, bnd1_s, m_r2 (by omega), bnd1_s, nn_nat (show r < 2147483648 by omega), if_neg (ng (by omega) (by omega)), lt_df, m6]
      exact ⟨_, nx', c', _, _, _, _, _, _, _, qn, S', w', b', worn', rfl, rfl, m3, m4, m5, hP.st m5, Or.inr ⟨rfl, rfl, hq⟩⟩
  · rw [e1, e2, bnd1_s, bnd1_s, if_pos rfl, if_pos rfl]
    exact ⟨-1, nx, c, ph nx, pb nx, pr nx, pg nx, pw nx, ps nx, pk nx, qp, S, w, broken, worn, rfl, rfl, hW, hI, St.rf, hN.same, Or.inl ⟨rfl, rfl, rfl, rfl⟩⟩
theorem r_cut (hN : RPa R P S w c nx ph pb pr pg pw ps pk) (hI : IV R P S) (hW : RWd S hour broken rung grip want slips worn) (hL : RLd R P S rungs people room strength weight told) (hp : pst nx = some pa) (a1 : Int32) : ∃ v nx' c' ah ab ar ag aw as_ ak q1 S' w' b' rung' slips', f11_cut pst (nn nx) (nn c) hour broken rung grip want slips worn rungs people (ph nx) (pb nx) (pr nx) (pg nx) (pw nx) (ps nx) (pk nx) pa qp qn a1 = some (v, nn nx', nn c', b', rung', slips', ah, ab, ar, ag, aw, as_, ak, q1) ∧ f12_cut S w (nn c) a1 = some (v, S', w', nn c') ∧ RWd S' hour b' rung' grip want slips' worn ∧ IV R P S' ∧ St S S' ∧ RPa R P S' w' c' nx' (upd ph nx ah) (upd pb nx ab) (updF pr nx ar) (updF pg nx ag) (updF pw nx aw) (updF ps nx as_) (updF pk nx ak) ∧ KQ c nx qn qp c' nx' q1 hour (ph nx) ah := by
  have hR9 := hI.1.1
  obtain ⟨b, hb, hbb, hbt⟩ := hW.2.1
  unfold f11_cut f12_cut
  rw [hL.1, hL.2.1, m_isWhole hI.1.2.2.1 hR9]
  rcases p_isRung hI a1 with ⟨r, hr, rfl, e1, -⟩ | ⟨h0, e1, -⟩
  · have hib : f10_isBroken broken (nn r) = some (if bt b r = 0 then 0 else 1) := by rw [hbb]; exact c_isBroken
    rw [e1, bnd1_s, if_neg (show ¬ (1 : Int32) = 0 by decide), hib, bnd1_s, bnd1_s, ← hbt r (by omega)]
    by_cases hw : S (13 + 4 * r) = 0
    · have h1 : sWh S (nn r) = true := (sWh_iff hI.1.2.2.1 hR9).mpr ⟨r, hr, rfl, hw⟩
      obtain ⟨w', c', nx', hq, k1, k2, hP⟩ := r_remember hN hI hW hp
      obtain ⟨v, b', rung', slips', S', m1, m2, m3, m4, m5, m6, m7⟩ := r_split hI.1 hI.2.1 hW hr
      rw [if_pos h1, if_pos hw, if_pos rfl, if_neg (show ¬ (1 : Int32) = 0 by decide), k1, bnd9_s, k2, bnd2_s, m1, bnd4_s, m2, bnd2_s]
      refine ⟨v, nx', c', _, _, _, _, _, _, _, qn, S', w', b', rung', slips', rfl, rfl, m3, ⟨m4, m6, fun q hq => ?_⟩, m5, hP.st m5, Or.inr ⟨rfl, rfl, hq⟩⟩
      obtain ⟨g, t, a, b, c, d, f⟩ := hI.2.2 q hq
      exact ⟨g, t, a, b, c, (m7 q).trans d, (m5.2.2.2 _ (by omega)).trans f⟩
    · have h1 : ¬ sWh S (nn r) = true := fun h => by
        obtain ⟨q, hq, e, h2⟩ := (sWh_iff hI.1.2.2.1 hR9).mp h
        have := nn_inj (by omega) (by omega) e
        subst this; exact hw h2
      rw [if_neg h1, if_neg hw, if_neg (show ¬ (1 : Int32) = 0 by decide), if_pos rfl]
      exact ⟨-1, nx, c, ph nx, pb nx, pr nx, pg nx, pw nx, ps nx, pk nx, qp, S, w, broken, rung, slips, rfl, rfl, hW, hI, St.rf, hN.same, Or.inl ⟨rfl, rfl, rfl, rfl⟩⟩
  · have h1 : ¬ sWh S a1 = true := fun h => by
      obtain ⟨q, hq, e, -⟩ := (sWh_iff hI.1.2.2.1 hR9).mp h
      exact h0 ⟨q, hq, e⟩
    rw [e1, if_neg h1, bnd1_s, bnd1_s, if_pos rfl, if_pos rfl]
    exact ⟨-1, nx, c, ph nx, pb nx, pr nx, pg nx, pw nx, ps nx, pk nx, qp, S, w, broken, rung, slips, rfl, rfl, hW, hI, St.rf, hN.same, Or.inl ⟨rfl, rfl, rfl, rfl⟩⟩
theorem r_aim (hN : RPa R P S w c nx ph pb pr pg pw ps pk) (hI : IV R P S) (hW : RWd S hour broken rung grip want slips worn) (hL : RLd R P S rungs people room strength weight told) (hp : pst nx = some pa) (a1 a2 : Int32) : ∃ v nx' c' ah ab ar ag aw as_ ak q1 S' w' want', f11_aim pst (nn nx) (nn c) hour broken rung grip want slips worn rungs people (ph nx) (pb nx) (pr nx) (pg nx) (pw nx) (ps nx) (pk nx) pa qp qn a1 a2 = some (v, nn nx', nn c', want', ah, ab, ar, ag, aw, as_, ak, q1) ∧ f12_aim S w (nn c) a1 a2 = some (v, S', w', nn c') ∧ RWd S' hour broken rung grip want' slips worn ∧ IV R P S' ∧ St S S' ∧ RPa R P S' w' c' nx' (upd ph nx ah) (upd pb nx ab) (updF pr nx ar) (updF pg nx ag) (updF pw nx aw) (updF ps nx as_) (updF pk nx ak) ∧ KQ c nx qn qp c' nx' q1 hour (ph nx) ah := by
  have hR9 := hI.1.1
  have hP4 := hI.1.2.1
  have hno : ∃ v nx' c' ah ab ar ag aw as_ ak q1 S' w' want', some ((-1 : Int32), nn nx, nn c, want, ph nx, pb nx, pr nx, pg nx, pw nx, ps nx, pk nx, qp) = some (v, nn nx', nn c', want', ah, ab, ar, ag, aw, as_, ak, q1) ∧ some ((-1 : Int32), S, w, nn c) = some (v, S', w', nn c') ∧ RWd S' hour broken rung grip want' slips worn ∧ IV R P S' ∧ St S S' ∧ RPa R P S' w' c' nx' (upd ph nx ah) (upd pb nx ab) (updF pr nx ar) (updF pg nx ag) (updF pw nx aw) (updF ps nx as_) (updF pk nx ak) ∧ KQ c nx qn qp c' nx' q1 hour (ph nx) ah := ⟨-1, nx, c, ph nx, pb nx, pr nx, pg nx, pw nx, ps nx, pk nx, qp, S, w, want, rfl, rfl, hW, hI, St.rf, hN.same, Or.inl ⟨rfl, rfl, rfl, rfl⟩⟩
  unfold f11_aim f12_aim
  rw [hL.1, hL.2.1]
  rcases p_isPerson hI a1 with ⟨p, hp1, rfl, e1, e2⟩ | ⟨e1, e2⟩
  · have hp4 : p < 4 := by omega
    rw [e1, e2, bnd1_s, bnd1_s, if_neg (show ¬ (1 : Int32) = 0 by decide), if_neg (show ¬ (1 : Int32) = 0 by decide), m_isUp hp4, bnd1_s]
    have hf : f10_hasFallen rung (nn p) = some (if S (46 + 4 * p) < 0 then 1 else 0) := by
      rw [c_hasFallen hp4, hW.2.2.1 p hp4]
      rcases (hI.2.1 p hp1).cases with h | ⟨r, hr, h⟩
      · rw [h]; rfl
      · rw [h, if_neg (nn_ne_m1 (by omega)), if_neg (nlt0 (by omega))]
    rw [hf]
    rcases p_isRung hI a2 with ⟨r, hr, rfl, k1, k2⟩ | ⟨-, k1, k2⟩
    · rw [k1, k2, bnd1_s, bnd1_s, bnd1_s, if_neg (show ¬ (1 : Int32) = 0 by decide), if_neg (show ¬ (1 : Int32) = 0 by decide)]
      by_cases hu : S (46 + 4 * p) < 0
      · rw [if_pos hu, if_pos hu, if_pos rfl, if_neg (show ¬ (1 : Int32) = 0 by decide)]; exact hno
      · rw [if_neg hu, if_neg hu, if_neg (show ¬ (1 : Int32) = 0 by decide), if_pos rfl, m_p2 hp4, bnd1_s, nn_nat (show p < 2147483648 by omega), if_neg (ng (by omega) (by omega)), hW.2.2.2.2.1 p hp4, lt_df]
        by_cases hq : S (48 + 4 * p) = nn r
        · rw [if_pos hq, if_pos hq]; exact hno
        · obtain ⟨w', c', nx', hk, j1, j2, hP⟩ := r_remember hN hI hW hp
          rw [if_neg hq, if_neg hq, j1, bnd9_s, j2, bnd2_s, bnd1_s, if_neg (ng (by omega) (by omega)), lt_df, (ix_p2 hp4).1, if_neg (ix_p2 hp4).2, lt_df]
          have hst : St S (upd S (48 + 4 * p) (nn r)) := St.u_cell (by omega)
          refine ⟨_, nx', c', _, _, _, _, _, _, _, qn, _, w', _, rfl, rfl, hW.u_want _, ⟨hI.1.u_want hp1 hr, fun q hq => ?_, fun q hq => ?_⟩, hst, hP.st hst, Or.inr ⟨rfl, rfl, hk⟩⟩
          · rcases hI.2.1 q hq with h | ⟨r2, h2, h3, h4⟩
            · exact Or.inl ((upd_ne (by omega)).trans h)
            · exact Or.inr ⟨r2, h2, (upd_ne (by omega)).trans h3, (upd_ne (by omega)).trans h4⟩
          · obtain ⟨g, t, a, b, c, d, f⟩ := hI.2.2 q hq
            exact ⟨g, t, a, b, c, (upd_ne (by omega)).trans d, (upd_ne (by omega)).trans f⟩
    · rw [k1, k2, bnd1_s, bnd1_s, bnd1_s, if_pos rfl, if_pos rfl]
      by_cases hu : S (46 + 4 * p) < 0
      · rw [if_pos hu, if_pos rfl]; exact hno
      · rw [if_neg hu, if_neg (show ¬ (1 : Int32) = 0 by decide)]; exact hno
  · rw [e1, e2, bnd1_s, bnd1_s, if_pos rfl, if_pos rfl]; exact hno
end
