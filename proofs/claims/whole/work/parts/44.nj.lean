/-! passing -/
section
variable {S S' w : Nat → Int32} {R P c nx pa qn qp : Nat} {hour broken rungs people : Int32} {rung grip want slips worn room strength weight told : Nat → Int32} {ph pb : Nat → Int32} {pr pg pw ps pk : Nat → Nat → Int32} {pst : Nat → Option Nat}
theorem sBes_ne {r : Nat} (hr : r < 10) : sBes S (nn r) 1 ≠ nn r := by
  unfold sBes
  rw [if_neg (nlt0 (by omega)), nn_succ, nn_succ]
  by_cases h1 : sWh S (nn (r + 1)) = true
  · rw [if_pos h1]; exact nne (by omega) (by omega) (by omega)
  · rw [if_neg h1]
    by_cases h2 : (sRg S (nn (r + 1)) && sWh S (nn (r + 1 + 1))) = true
    · rw [if_pos h2]; exact nne (by omega) (by omega) (by omega)
    · rw [if_neg h2]; exact fun e => nn_ne_m1 (by omega) e.symm
def cpV (S : Nat → Int32) (p q : Nat) : Int32 := if S (46 + 4 * p) < 0 then 0 else if S (46 + 4 * q) < 0 then 0 else if sBes S (S (46 + 4 * p)) 1 = S (46 + 4 * q) then 1 else if sBes S (S (46 + 4 * q)) 1 = S (46 + 4 * p) then 1 else 0
theorem cpV_same {p : Nat} (hI : IV R P S) (hp : p < P) : cpV S p p = 0 := by
  have hR9 := hI.1.1
  unfold cpV
  rcases (hI.2.1 p hp).cases with h | ⟨r, hr, h⟩
  · rw [h]; rfl
  · rw [h, if_neg (nlt0 (by omega)), if_neg (nlt0 (by omega)), if_neg (sBes_ne (by omega)), if_neg (sBes_ne (by omega))]
theorem c_fall {p : Nat} (hI : IV R P S) (hW : RWd S hour broken rung grip want slips worn) (hp : p < P) : f10_hasFallen rung (nn p) = some (if S (46 + 4 * p) < 0 then 1 else 0) := by
  have hP4 := hI.1.2.1
  have hR9 := hI.1.1
  rw [c_hasFallen (by omega), hW.2.2.1 p (by omega)]
  rcases (hI.2.1 p hp).cases with h | ⟨r, hr, h⟩
  · rw [h]; rfl
  · rw [h, if_neg (nn_ne_m1 (by omega)), if_neg (nlt0 (by omega))]
theorem c_canPass {p q : Nat} (hI : IV R P S) (hW : RWd S hour broken rung grip want slips worn) (hp : p < P) (hq : q < P) : f10_canPass broken rung (nn R) (nn p) (nn q) = some (cpV S p q) := by
  have hP4 := hI.1.2.1
  have hR9 := hI.1.1
  unfold f10_canPass f10_canPass_J58 cpV
  rw [c_fall hI hW hp, c_fall hI hW hq, bnd1_s, bnd1_s, nn_nat (show p < 2147483648 by omega), nn_nat (show q < 2147483648 by omega), hW.2.2.1 p (by omega), hW.2.2.1 q (by omega)]
  by_cases h1 : S (46 + 4 * p) < 0
  · rw [if_pos h1, if_neg (show ¬ (1 : Int32) = 0 by decide), if_pos h1]
  · rw [if_neg h1, if_pos rfl, if_neg h1]
    by_cases h2 : S (46 + 4 * q) < 0
    · rw [if_pos h2, if_neg (show ¬ (1 : Int32) = 0 by decide), if_pos h2]
    · rw [if_neg h2, if_pos rfl, if_neg h2, if_neg (ng (by omega) (by omega)), c_beside hI.1.2.2.1 hR9 hW.2.1, bnd1_s, if_neg (ng (by omega) (by omega))]
      by_cases h3 : sBes S (S (46 + 4 * p)) 1 = S (46 + 4 * q)
      · rw [if_pos h3, if_pos h3]
      · rw [if_neg h3, if_neg h3, if_neg (ng (by omega) (by omega)), c_beside hI.1.2.2.1 hR9 hW.2.1, bnd1_s, if_neg (ng (by omega) (by omega))]
        by_cases h4 : sBes S (S (46 + 4 * q)) 1 = S (46 + 4 * p)
        · rw [if_pos h4, if_pos h4]
        · rw [if_neg h4, if_neg h4]
theorem m_canPass {p q : Nat} (hI : IV R P S) (hp : p < P) (hq : q < P) : f12_canPass S (nn p) (nn q) = some (cpV S p q) := by
  have hP4 := hI.1.2.1
  have hR9 := hI.1.1
  by_cases e : p = q
  · subst e
    unfold f12_canPass
    rw [if_pos rfl, cpV_same hI hp]
  · unfold f12_canPass f12_canPass_J61 cpV
    rw [if_neg (nne (by omega) (by omega) e), m_isUp (by omega), m_isUp (by omega), bnd1_s, bnd1_s]
    by_cases h1 : S (46 + 4 * p) < 0
    · rw [if_pos h1, if_pos rfl, if_pos h1]
    · rw [if_neg h1, if_neg (show ¬ (1 : Int32) = 0 by decide), if_neg h1]
      by_cases h2 : S (46 + 4 * q) < 0
      · rw [if_pos h2, if_pos rfl, if_pos h2]
      · rw [if_neg h2, if_neg (show ¬ (1 : Int32) = 0 by decide), if_neg h2, m_p0 (by omega), m_p0 (by omega), bnd1_s, m_beside hI.1.2.2.1 hR9, bnd1_s, bnd1_s]
        by_cases h3 : sBes S (S (46 + 4 * p)) 1 = S (46 + 4 * q)
        · rw [if_pos h3, if_pos h3]
        · rw [if_neg h3, if_neg h3, bnd1_s, m_beside hI.1.2.2.1 hR9, bnd1_s, bnd1_s]
          by_cases h4 : sBes S (S (46 + 4 * q)) 1 = S (46 + 4 * p)
          · rw [if_pos h4, if_pos h4]
          · rw [if_neg h4, if_neg h4]
theorem r_pass (hN : RPa R P S w c nx ph pb pr pg pw ps pk) (hI : IV R P S) (hW : RWd S hour broken rung grip want slips worn) (hL : RLd R P S rungs people room strength weight told) (hp : pst nx = some pa) (a1 a2 : Int32) : ∃ v nx' c' ah ab ar ag aw as_ ak q1 S' w' rung', f11_pass pst (nn nx) (nn c) hour broken rung grip want slips worn rungs people (ph nx) (pb nx) (pr nx) (pg nx) (pw nx) (ps nx) (pk nx) pa qp qn a1 a2 = some (v, nn nx', nn c', rung', ah, ab, ar, ag, aw, as_, ak, q1) ∧ f12_pass S w (nn c) a1 a2 = some (v, S', w', nn c') ∧ RWd S' hour broken rung' grip want slips worn ∧ IV R P S' ∧ St S S' ∧ RPa R P S' w' c' nx' (upd ph nx ah) (upd pb nx ab) (updF pr nx ar) (updF pg nx ag) (updF pw nx aw) (updF ps nx as_) (updF pk nx ak) ∧ KQ c nx qn qp c' nx' q1 hour (ph nx) ah := by
  have hR9 := hI.1.1
  have hP4 := hI.1.2.1
  have hno : ∃ v nx' c' ah ab ar ag aw as_ ak q1 S' w' rung', some ((0 : Int32), nn nx, nn c, rung, ph nx, pb nx, pr nx, pg nx, pw nx, ps nx, pk nx, qp) = some (v, nn nx', nn c', rung', ah, ab, ar, ag, aw, as_, ak, q1) ∧ some ((0 : Int32), S, w, nn c) = some (v, S', w', nn c') ∧ RWd S' hour broken rung' grip want slips worn ∧ IV R P S' ∧ St S S' ∧ RPa R P S' w' c' nx' (upd ph nx ah) (upd pb nx ab) (updF pr nx ar) (updF pg nx ag) (updF pw nx aw) (updF ps nx as_) (updF pk nx ak) ∧ KQ c nx qn qp c' nx' q1 hour (ph nx) ah := ⟨0, nx, c, ph nx, pb nx, pr nx, pg nx, pw nx, ps nx, pk nx, qp, S, w, rung, rfl, rfl, hW, hI, St.rf, hN.same, Or.inl ⟨rfl, rfl, rfl, rfl⟩⟩
  unfold f11_pass f12_pass
  rw [hL.1, hL.2.1]
  rcases p_isPerson hI a1 with ⟨p, hp1, rfl, e1, e2⟩ | ⟨e1, e2⟩
  · rw [e1, e2, bnd1_s, bnd1_s, if_neg (show ¬ (1 : Int32) = 0 by decide), if_neg (show ¬ (1 : Int32) = 0 by decide)]
    rcases p_isPerson hI a2 with ⟨q, hq1, rfl, k1, k2⟩ | ⟨k1, k2⟩
    · rw [k1, k2, bnd1_s, bnd1_s, if_neg (show ¬ (1 : Int32) = 0 by decide), if_neg (show ¬ (1 : Int32) = 0 by decide), c_canPass hI hW hp1 hq1, m_canPass hI hp1 hq1, bnd1_s, bnd1_s]
      by_cases h : cpV S p q = 0
      · rw [if_pos h, if_pos h]; exact hno
      · have hpq : p ≠ q := fun e => h (by subst e; exact cpV_same hI hp1)
        have hp4 : p < 4 := by omega
        have hq4 : q < 4 := by omega
        obtain ⟨w', c', nx', hk, j1, j2, hP⟩ := r_remember hN hI hW hp
        have hs : f10_swap rung (nn p) (nn q) = some (upd (upd rung p (S (46 + 4 * q))) q (S (46 + 4 * p))) := by
          unfold f10_swap
          rw [nn_nat (show p < 2147483648 by omega), nn_nat (show q < 2147483648 by omega), if_neg (ng (by omega) (by omega)), lt_df, if_neg (ng (by omega) (by omega)), lt_df, if_neg (ng (by omega) (by omega)), lt_df, if_neg (ng (by omega) (by omega)), lt_df, hW.2.2.1 p hp4, hW.2.2.1 q hq4]
        have hm : f12_swaps S (nn p) (nn q) = some (upd (upd S (46 + 4 * p) (S (46 + 4 * q))) (46 + 4 * q) (S (46 + 4 * p))) := by
          unfold f12_swaps
          rw [m_p0 hp4, bnd1_s, m_p0 hq4, bnd1_s, (ix_p0 hp4).1, if_neg (ix_p0 hp4).2, lt_df, (ix_p0 hq4).1, if_neg (ix_p0 hq4).2, lt_df]
        rw [if_neg h, if_neg h, j1, bnd9_s, j2, bnd2_s, hs, bnd1_s, hm, bnd1_s]
        have hst : St S (upd (upd S (46 + 4 * p) (S (46 + 4 * q))) (46 + 4 * q) (S (46 + 4 * p))) := (St.u_cell (by omega)).tr (St.u_cell (by omega))
        have hmv : ∀ r x, OKp R S r → x < P → (upd (upd S (46 + 4 * p) (S (46 + 4 * q))) (46 + 4 * q) (S (46 + 4 * p))) (46 + 4 * x) = S (46 + 4 * r) → OKp R (upd (upd S (46 + 4 * p) (S (46 + 4 * q))) (46 + 4 * q) (S (46 + 4 * p))) x := by
          intro r x ho hx e
          rcases ho with h | ⟨r2, h2, h3, h4⟩
          · exact Or.inl (e.trans h)
          · exact Or.inr ⟨r2, h2, e.trans h3, (upd_ne (by omega)).trans ((upd_ne (by omega)).trans h4)⟩
        refine ⟨1, nx', c', _, _, _, _, _, _, _, qn, _, w', _, rfl, rfl, (hW.u_rung _).u_rung _, ⟨(hI.1.u_cell (by omega)).u_cell (by omega), fun x hx => ?_, fun x hx => ?_⟩, hst, hP.st hst, Or.inr ⟨rfl, rfl, hk⟩⟩
        · by_cases e : x = q
          · subst e; exact hmv p x (hI.2.1 p hp1) hx upd_at
          · by_cases e2 : x = p
            · subst e2; exact hmv q x (hI.2.1 q hq1) hx ((upd_ne (by omega)).trans upd_at)
            · exact hmv x x (hI.2.1 x hx) hx ((upd_ne (by omega)).trans (upd_ne (by omega)))
        · obtain ⟨g, t, a, b, c, d, f⟩ := hI.2.2 x hx
          exact ⟨g, t, a, b, c, (upd_ne (by omega)).trans ((upd_ne (by omega)).trans d), (upd_ne (by omega)).trans ((upd_ne (by omega)).trans f)⟩
    · rw [k1, k2, bnd1_s, bnd1_s, if_pos rfl, if_pos rfl]; exact hno
  · rw [e1, e2, bnd1_s, bnd1_s, if_pos rfl, if_pos rfl]; exact hno
end
